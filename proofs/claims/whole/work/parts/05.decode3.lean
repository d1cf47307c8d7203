theorem dX12_goHour_69 : decode cX12_goHour 69 = .ok (.goto (-67), 3) := by decide +kernel
theorem dX12_goHour_72 : decode cX12_goHour 72 = .ok (.aload_n 0, 1) := by decide +kernel
theorem dX12_goHour_73 : decode cX12_goHour 73 = .ok (.getfield 88, 3) := by decide +kernel
theorem dX12_goHour_76 : decode cX12_goHour 76 = .ok (.iload_n 1, 1) := by decide +kernel
theorem dX12_goHour_77 : decode cX12_goHour 77 = .ok (.dup2, 1) := by decide +kernel
theorem dX12_goHour_78 : decode cX12_goHour 78 = .ok (.iaload, 1) := by decide +kernel
theorem dX12_goHour_79 : decode cX12_goHour 79 = .ok (.iconst 1, 1) := by decide +kernel
theorem dX12_goHour_80 : decode cX12_goHour 80 = .ok (.iadd, 1) := by decide +kernel
theorem dX12_goHour_81 : decode cX12_goHour 81 = .ok (.iastore, 1) := by decide +kernel
theorem dX12_goHour_82 : decode cX12_goHour 82 = .ok (.return_, 1) := by decide +kernel
theorem dX12_offCoin_0 : decode cX12_offCoin 0 = .ok (.iconst 0, 1) := by decide +kernel
theorem dX12_offCoin_1 : decode cX12_offCoin 1 = .ok (.istore_n 2, 1) := by decide +kernel
theorem dX12_offCoin_2 : decode cX12_offCoin 2 = .ok (.iconst 0, 1) := by decide +kernel
theorem dX12_offCoin_3 : decode cX12_offCoin 3 = .ok (.istore_n 3, 1) := by decide +kernel
theorem dX12_offCoin_4 : decode cX12_offCoin 4 = .ok (.iload_n 3, 1) := by decide +kernel
theorem dX12_offCoin_5 : decode cX12_offCoin 5 = .ok (.aload_n 0, 1) := by decide +kernel
theorem dX12_offCoin_6 : decode cX12_offCoin 6 = .ok (.getfield 28, 3) := by decide +kernel
theorem dX12_offCoin_9 : decode cX12_offCoin 9 = .ok (.iconst 0, 1) := by decide +kernel
theorem dX12_offCoin_10 : decode cX12_offCoin 10 = .ok (.iaload, 1) := by decide +kernel
theorem dX12_offCoin_11 : decode cX12_offCoin 11 = .ok (.if_icmp .ge 49, 3) := by decide +kernel
theorem dX12_offCoin_14 : decode cX12_offCoin 14 = .ok (.iload_n 2, 1) := by decide +kernel
theorem dX12_offCoin_15 : decode cX12_offCoin 15 = .ok (.aload_n 0, 1) := by decide +kernel
theorem dX12_offCoin_16 : decode cX12_offCoin 16 = .ok (.getfield 82, 3) := by decide +kernel
theorem dX12_offCoin_19 : decode cX12_offCoin 19 = .ok (.bipush 10, 2) := by decide +kernel
theorem dX12_offCoin_21 : decode cX12_offCoin 21 = .ok (.iload_n 1, 1) := by decide +kernel
theorem dX12_offCoin_22 : decode cX12_offCoin 22 = .ok (.imul, 1) := by decide +kernel
theorem dX12_offCoin_23 : decode cX12_offCoin 23 = .ok (.iload_n 3, 1) := by decide +kernel
theorem dX12_offCoin_24 : decode cX12_offCoin 24 = .ok (.iadd, 1) := by decide +kernel
theorem dX12_offCoin_25 : decode cX12_offCoin 25 = .ok (.iaload, 1) := by decide +kernel
theorem dX12_offCoin_26 : decode cX12_offCoin 26 = .ok (.ifCond .ne 25, 3) := by decide +kernel
theorem dX12_offCoin_29 : decode cX12_offCoin 29 = .ok (.aload_n 0, 1) := by decide +kernel
theorem dX12_offCoin_30 : decode cX12_offCoin 30 = .ok (.bipush 10, 2) := by decide +kernel
theorem dX12_offCoin_32 : decode cX12_offCoin 32 = .ok (.iload_n 1, 1) := by decide +kernel
theorem dX12_offCoin_33 : decode cX12_offCoin 33 = .ok (.imul, 1) := by decide +kernel
theorem dX12_offCoin_34 : decode cX12_offCoin 34 = .ok (.iload_n 3, 1) := by decide +kernel
theorem dX12_offCoin_35 : decode cX12_offCoin 35 = .ok (.iadd, 1) := by decide +kernel
theorem dX12_offCoin_36 : decode cX12_offCoin 36 = .ok (.invokevirtual 180, 3) := by decide +kernel
theorem dX12_offCoin_39 : decode cX12_offCoin 39 = .ok (.ifCond .eq 12, 3) := by decide +kernel
theorem dX12_offCoin_42 : decode cX12_offCoin 42 = .ok (.aload_n 0, 1) := by decide +kernel
theorem dX12_offCoin_43 : decode cX12_offCoin 43 = .ok (.getfield 37, 3) := by decide +kernel
theorem dX12_offCoin_46 : decode cX12_offCoin 46 = .ok (.iload_n 3, 1) := by decide +kernel
theorem dX12_offCoin_47 : decode cX12_offCoin 47 = .ok (.iaload, 1) := by decide +kernel
theorem dX12_offCoin_48 : decode cX12_offCoin 48 = .ok (.goto 4, 3) := by decide +kernel
theorem dX12_offCoin_51 : decode cX12_offCoin 51 = .ok (.iconst 0, 1) := by decide +kernel
theorem dX12_offCoin_52 : decode cX12_offCoin 52 = .ok (.iadd, 1) := by decide +kernel
theorem dX12_offCoin_53 : decode cX12_offCoin 53 = .ok (.istore_n 2, 1) := by decide +kernel
theorem dX12_offCoin_54 : decode cX12_offCoin 54 = .ok (.iinc 3 1, 3) := by decide +kernel
theorem dX12_offCoin_57 : decode cX12_offCoin 57 = .ok (.goto (-53), 3) := by decide +kernel
theorem dX12_offCoin_60 : decode cX12_offCoin 60 = .ok (.iload_n 2, 1) := by decide +kernel
theorem dX12_offCoin_61 : decode cX12_offCoin 61 = .ok (.ireturn, 1) := by decide +kernel
theorem dX12_food_0 : decode cX12_food 0 = .ok (.aload_n 0, 1) := by decide +kernel
theorem dX12_food_1 : decode cX12_food 1 = .ok (.iload_n 1, 1) := by decide +kernel
theorem dX12_food_2 : decode cX12_food 2 = .ok (.invokevirtual 183, 3) := by decide +kernel
theorem dX12_food_5 : decode cX12_food 5 = .ok (.ifCond .eq 15, 3) := by decide +kernel
theorem dX12_food_8 : decode cX12_food 8 = .ok (.iload_n 2, 1) := by decide +kernel
theorem dX12_food_9 : decode cX12_food 9 = .ok (.i2l, 1) := by decide +kernel
theorem dX12_food_10 : decode cX12_food 10 = .ok (.lconst 0, 1) := by decide +kernel
theorem dX12_food_11 : decode cX12_food 11 = .ok (.ldc2_w 186, 3) := by decide +kernel
theorem dX12_food_14 : decode cX12_food 14 = .ok (.invokestatic 106, 3) := by decide +kernel
theorem dX12_food_17 : decode cX12_food 17 = .ok (.ifCond .ne 5, 3) := by decide +kernel
theorem dX12_food_20 : decode cX12_food 20 = .ok (.iconst (-1), 1) := by decide +kernel
theorem dX12_food_21 : decode cX12_food 21 = .ok (.ireturn, 1) := by decide +kernel
theorem dX12_food_22 : decode cX12_food 22 = .ok (.iload_n 2, 1) := by decide +kernel
theorem dX12_food_23 : decode cX12_food 23 = .ok (.tableswitch 85 0 5 #[37, 44, 51, 58, 64, 71], 37) := by decide +kernel
theorem dX12_food_60 : decode cX12_food 60 = .ok (.aload_n 0, 1) := by decide +kernel
theorem dX12_food_61 : decode cX12_food 61 = .ok (.getfield 73, 3) := by decide +kernel
theorem dX12_food_64 : decode cX12_food 64 = .ok (.iload_n 1, 1) := by decide +kernel
theorem dX12_food_65 : decode cX12_food 65 = .ok (.iaload, 1) := by decide +kernel
theorem dX12_food_66 : decode cX12_food 66 = .ok (.ireturn, 1) := by decide +kernel
theorem dX12_food_67 : decode cX12_food 67 = .ok (.aload_n 0, 1) := by decide +kernel
theorem dX12_food_68 : decode cX12_food 68 = .ok (.getfield 76, 3) := by decide +kernel
theorem dX12_food_71 : decode cX12_food 71 = .ok (.iload_n 1, 1) := by decide +kernel
theorem dX12_food_72 : decode cX12_food 72 = .ok (.iaload, 1) := by decide +kernel
theorem dX12_food_73 : decode cX12_food 73 = .ok (.ireturn, 1) := by decide +kernel
theorem dX12_food_74 : decode cX12_food 74 = .ok (.aload_n 0, 1) := by decide +kernel
theorem dX12_food_75 : decode cX12_food 75 = .ok (.getfield 79, 3) := by decide +kernel
theorem dX12_food_78 : decode cX12_food 78 = .ok (.iload_n 1, 1) := by decide +kernel
theorem dX12_food_79 : decode cX12_food 79 = .ok (.iaload, 1) := by decide +kernel
theorem dX12_food_80 : decode cX12_food 80 = .ok (.ireturn, 1) := by decide +kernel
theorem dX12_food_81 : decode cX12_food 81 = .ok (.aload_n 0, 1) := by decide +kernel
theorem dX12_food_82 : decode cX12_food 82 = .ok (.iload_n 1, 1) := by decide +kernel
theorem dX12_food_83 : decode cX12_food 83 = .ok (.invokevirtual 170, 3) := by decide +kernel
theorem dX12_food_86 : decode cX12_food 86 = .ok (.ireturn, 1) := by decide +kernel
theorem dX12_food_87 : decode cX12_food 87 = .ok (.aload_n 0, 1) := by decide +kernel
theorem dX12_food_88 : decode cX12_food 88 = .ok (.getfield 82, 3) := by decide +kernel
theorem dX12_food_91 : decode cX12_food 91 = .ok (.iload_n 1, 1) := by decide +kernel
theorem dX12_food_92 : decode cX12_food 92 = .ok (.iaload, 1) := by decide +kernel
theorem dX12_food_93 : decode cX12_food 93 = .ok (.ireturn, 1) := by decide +kernel
theorem dX12_food_94 : decode cX12_food 94 = .ok (.aload_n 0, 1) := by decide +kernel
theorem dX12_food_95 : decode cX12_food 95 = .ok (.iload_n 1, 1) := by decide +kernel
theorem dX12_food_96 : decode cX12_food 96 = .ok (.invokevirtual 180, 3) := by decide +kernel
theorem dX12_food_99 : decode cX12_food 99 = .ok (.ifCond .eq 7, 3) := by decide +kernel
theorem dX12_food_102 : decode cX12_food 102 = .ok (.iconst 1, 1) := by decide +kernel
theorem dX12_food_103 : decode cX12_food 103 = .ok (.goto 4, 3) := by decide +kernel
theorem dX12_food_106 : decode cX12_food 106 = .ok (.iconst 0, 1) := by decide +kernel
theorem dX12_food_107 : decode cX12_food 107 = .ok (.ireturn, 1) := by decide +kernel
theorem dX12_food_108 : decode cX12_food 108 = .ok (.aload_n 0, 1) := by decide +kernel
theorem dX12_food_109 : decode cX12_food 109 = .ok (.getfield 46, 3) := by decide +kernel
theorem dX12_food_112 : decode cX12_food 112 = .ok (.iload_n 1, 1) := by decide +kernel
theorem dX12_food_113 : decode cX12_food 113 = .ok (.iaload, 1) := by decide +kernel
theorem dX12_food_114 : decode cX12_food 114 = .ok (.ireturn, 1) := by decide +kernel
theorem dX12_warmth_0 : decode cX12_warmth 0 = .ok (.aload_n 0, 1) := by decide +kernel
theorem dX12_warmth_1 : decode cX12_warmth 1 = .ok (.iload_n 1, 1) := by decide +kernel
theorem dX12_warmth_2 : decode cX12_warmth 2 = .ok (.invokevirtual 188, 3) := by decide +kernel
theorem dX12_warmth_5 : decode cX12_warmth 5 = .ok (.ifCond .eq 24, 3) := by decide +kernel
theorem dX12_warmth_8 : decode cX12_warmth 8 = .ok (.iload_n 2, 1) := by decide +kernel
theorem dX12_warmth_9 : decode cX12_warmth 9 = .ok (.i2l, 1) := by decide +kernel
theorem dX12_warmth_10 : decode cX12_warmth 10 = .ok (.lconst 0, 1) := by decide +kernel
theorem dX12_warmth_11 : decode cX12_warmth 11 = .ok (.ldc2_w 191, 3) := by decide +kernel
theorem dX12_warmth_14 : decode cX12_warmth 14 = .ok (.invokestatic 106, 3) := by decide +kernel
theorem dX12_warmth_17 : decode cX12_warmth 17 = .ok (.ifCond .eq 12, 3) := by decide +kernel
theorem dX12_warmth_20 : decode cX12_warmth 20 = .ok (.aload_n 0, 1) := by decide +kernel
theorem dX12_warmth_21 : decode cX12_warmth 21 = .ok (.iload_n 1, 1) := by decide +kernel
theorem dX12_warmth_22 : decode cX12_warmth 22 = .ok (.iload_n 2, 1) := by decide +kernel
theorem dX12_warmth_23 : decode cX12_warmth 23 = .ok (.invokevirtual 173, 3) := by decide +kernel
theorem dX12_warmth_26 : decode cX12_warmth 26 = .ok (.goto 4, 3) := by decide +kernel
theorem dX12_warmth_29 : decode cX12_warmth 29 = .ok (.iconst (-1), 1) := by decide +kernel
theorem dX12_warmth_30 : decode cX12_warmth 30 = .ok (.ireturn, 1) := by decide +kernel
theorem dX12_hours_0 : decode cX12_hours 0 = .ok (.iload_n 1, 1) := by decide +kernel
theorem dX12_hours_1 : decode cX12_hours 1 = .ok (.i2l, 1) := by decide +kernel
theorem dX12_hours_2 : decode cX12_hours 2 = .ok (.lconst 1, 1) := by decide +kernel
theorem dX12_hours_3 : decode cX12_hours 3 = .ok (.ldc2_w 193, 3) := by decide +kernel
theorem dX12_hours_6 : decode cX12_hours 6 = .ok (.invokestatic 106, 3) := by decide +kernel
theorem dX12_hours_9 : decode cX12_hours 9 = .ok (.ifCond .ne 5, 3) := by decide +kernel
theorem dX12_hours_12 : decode cX12_hours 12 = .ok (.iconst (-1), 1) := by decide +kernel
theorem dX12_hours_13 : decode cX12_hours 13 = .ok (.ireturn, 1) := by decide +kernel
theorem dX12_hours_14 : decode cX12_hours 14 = .ok (.aload_n 0, 1) := by decide +kernel
theorem dX12_hours_15 : decode cX12_hours 15 = .ok (.getfield 88, 3) := by decide +kernel
theorem dX12_hours_18 : decode cX12_hours 18 = .ok (.iconst 0, 1) := by decide +kernel
theorem dX12_hours_19 : decode cX12_hours 19 = .ok (.iaload, 1) := by decide +kernel
theorem dX12_hours_20 : decode cX12_hours 20 = .ok (.iload_n 1, 1) := by decide +kernel
theorem dX12_hours_21 : decode cX12_hours 21 = .ok (.iadd, 1) := by decide +kernel
theorem dX12_hours_22 : decode cX12_hours 22 = .ok (.ldc 195, 2) := by decide +kernel
theorem dX12_hours_24 : decode cX12_hours 24 = .ok (.if_icmp .le 6, 3) := by decide +kernel
theorem dX12_hours_27 : decode cX12_hours 27 = .ok (.bipush (-2), 2) := by decide +kernel
theorem dX12_hours_29 : decode cX12_hours 29 = .ok (.ireturn, 1) := by decide +kernel
theorem dX12_hours_30 : decode cX12_hours 30 = .ok (.iconst 0, 1) := by decide +kernel
theorem dX12_hours_31 : decode cX12_hours 31 = .ok (.istore_n 2, 1) := by decide +kernel
theorem dX12_hours_32 : decode cX12_hours 32 = .ok (.iload_n 2, 1) := by decide +kernel
theorem dX12_hours_33 : decode cX12_hours 33 = .ok (.iload_n 1, 1) := by decide +kernel
theorem dX12_hours_34 : decode cX12_hours 34 = .ok (.if_icmp .ge 14, 3) := by decide +kernel
theorem dX12_hours_37 : decode cX12_hours 37 = .ok (.aload_n 0, 1) := by decide +kernel
theorem dX12_hours_38 : decode cX12_hours 38 = .ok (.iconst 0, 1) := by decide +kernel
theorem dX12_hours_39 : decode cX12_hours 39 = .ok (.invokevirtual 196, 3) := by decide +kernel
theorem dX12_hours_42 : decode cX12_hours 42 = .ok (.iinc 2 1, 3) := by decide +kernel
theorem dX12_hours_45 : decode cX12_hours 45 = .ok (.goto (-13), 3) := by decide +kernel
theorem dX12_hours_48 : decode cX12_hours 48 = .ok (.iconst 0, 1) := by decide +kernel
theorem dX12_hours_49 : decode cX12_hours 49 = .ok (.istore_n 2, 1) := by decide +kernel
theorem dX12_hours_50 : decode cX12_hours 50 = .ok (.iconst 0, 1) := by decide +kernel
theorem dX12_hours_51 : decode cX12_hours 51 = .ok (.istore_n 3, 1) := by decide +kernel
theorem dX12_hours_52 : decode cX12_hours 52 = .ok (.iload_n 3, 1) := by decide +kernel
theorem dX12_hours_53 : decode cX12_hours 53 = .ok (.aload_n 0, 1) := by decide +kernel
theorem dX12_hours_54 : decode cX12_hours 54 = .ok (.getfield 28, 3) := by decide +kernel
theorem dX12_hours_57 : decode cX12_hours 57 = .ok (.iconst 0, 1) := by decide +kernel
theorem dX12_hours_58 : decode cX12_hours 58 = .ok (.iaload, 1) := by decide +kernel
theorem dX12_hours_59 : decode cX12_hours 59 = .ok (.if_icmp .ge 34, 3) := by decide +kernel
theorem dX12_hours_62 : decode cX12_hours 62 = .ok (.iload_n 2, 1) := by decide +kernel
theorem dX12_hours_63 : decode cX12_hours 63 = .ok (.aload_n 0, 1) := by decide +kernel
theorem dX12_hours_64 : decode cX12_hours 64 = .ok (.getfield 82, 3) := by decide +kernel
theorem dX12_hours_67 : decode cX12_hours 67 = .ok (.iload_n 3, 1) := by decide +kernel
theorem dX12_hours_68 : decode cX12_hours 68 = .ok (.iaload, 1) := by decide +kernel
theorem dX12_hours_69 : decode cX12_hours 69 = .ok (.ifCond .ne 15, 3) := by decide +kernel
theorem dX12_hours_72 : decode cX12_hours 72 = .ok (.aload_n 0, 1) := by decide +kernel
theorem dX12_hours_73 : decode cX12_hours 73 = .ok (.iload_n 3, 1) := by decide +kernel
theorem dX12_hours_74 : decode cX12_hours 74 = .ok (.invokevirtual 180, 3) := by decide +kernel
theorem dX12_hours_77 : decode cX12_hours 77 = .ok (.ifCond .eq 7, 3) := by decide +kernel
theorem dX12_hours_80 : decode cX12_hours 80 = .ok (.iconst 1, 1) := by decide +kernel
theorem dX12_hours_81 : decode cX12_hours 81 = .ok (.goto 4, 3) := by decide +kernel
theorem dX12_hours_84 : decode cX12_hours 84 = .ok (.iconst 0, 1) := by decide +kernel
theorem dX12_hours_85 : decode cX12_hours 85 = .ok (.iadd, 1) := by decide +kernel
theorem dX12_hours_86 : decode cX12_hours 86 = .ok (.istore_n 2, 1) := by decide +kernel
theorem dX12_hours_87 : decode cX12_hours 87 = .ok (.iinc 3 1, 3) := by decide +kernel
theorem dX12_hours_90 : decode cX12_hours 90 = .ok (.goto (-38), 3) := by decide +kernel
theorem dX12_hours_93 : decode cX12_hours 93 = .ok (.iload_n 2, 1) := by decide +kernel
theorem dX12_hours_94 : decode cX12_hours 94 = .ok (.ireturn, 1) := by decide +kernel
theorem dX12_inCell_0 : decode cX12_inCell 0 = .ok (.iconst 0, 1) := by decide +kernel
theorem dX12_inCell_1 : decode cX12_inCell 1 = .ok (.istore_n 2, 1) := by decide +kernel
theorem dX12_inCell_2 : decode cX12_inCell 2 = .ok (.iconst 0, 1) := by decide +kernel
theorem dX12_inCell_3 : decode cX12_inCell 3 = .ok (.istore_n 3, 1) := by decide +kernel
theorem dX12_inCell_4 : decode cX12_inCell 4 = .ok (.iload_n 3, 1) := by decide +kernel
theorem dX12_inCell_5 : decode cX12_inCell 5 = .ok (.aload_n 0, 1) := by decide +kernel
theorem dX12_inCell_6 : decode cX12_inCell 6 = .ok (.getfield 28, 3) := by decide +kernel
theorem dX12_inCell_9 : decode cX12_inCell 9 = .ok (.iconst 0, 1) := by decide +kernel
theorem dX12_inCell_10 : decode cX12_inCell 10 = .ok (.iaload, 1) := by decide +kernel
theorem dX12_inCell_11 : decode cX12_inCell 11 = .ok (.if_icmp .ge 36, 3) := by decide +kernel
theorem dX12_inCell_14 : decode cX12_inCell 14 = .ok (.iload_n 2, 1) := by decide +kernel
theorem dX12_inCell_15 : decode cX12_inCell 15 = .ok (.aload_n 0, 1) := by decide +kernel
theorem dX12_inCell_16 : decode cX12_inCell 16 = .ok (.getfield 82, 3) := by decide +kernel
theorem dX12_inCell_19 : decode cX12_inCell 19 = .ok (.iload_n 3, 1) := by decide +kernel
theorem dX12_inCell_20 : decode cX12_inCell 20 = .ok (.iaload, 1) := by decide +kernel
theorem dX12_inCell_21 : decode cX12_inCell 21 = .ok (.ifCond .ne 17, 3) := by decide +kernel
theorem dX12_inCell_24 : decode cX12_inCell 24 = .ok (.aload_n 0, 1) := by decide +kernel
theorem dX12_inCell_25 : decode cX12_inCell 25 = .ok (.getfield 76, 3) := by decide +kernel
theorem dX12_inCell_28 : decode cX12_inCell 28 = .ok (.iload_n 3, 1) := by decide +kernel
theorem dX12_inCell_29 : decode cX12_inCell 29 = .ok (.iaload, 1) := by decide +kernel
theorem dX12_inCell_30 : decode cX12_inCell 30 = .ok (.iload_n 1, 1) := by decide +kernel
theorem dX12_inCell_31 : decode cX12_inCell 31 = .ok (.if_icmp .ne 7, 3) := by decide +kernel
theorem dX12_inCell_34 : decode cX12_inCell 34 = .ok (.iconst 1, 1) := by decide +kernel
theorem dX12_inCell_35 : decode cX12_inCell 35 = .ok (.goto 4, 3) := by decide +kernel
theorem dX12_inCell_38 : decode cX12_inCell 38 = .ok (.iconst 0, 1) := by decide +kernel
theorem dX12_inCell_39 : decode cX12_inCell 39 = .ok (.iadd, 1) := by decide +kernel
theorem dX12_inCell_40 : decode cX12_inCell 40 = .ok (.istore_n 2, 1) := by decide +kernel
theorem dX12_inCell_41 : decode cX12_inCell 41 = .ok (.iinc 3 1, 3) := by decide +kernel
theorem dX12_inCell_44 : decode cX12_inCell 44 = .ok (.goto (-40), 3) := by decide +kernel
theorem dX12_inCell_47 : decode cX12_inCell 47 = .ok (.iload_n 2, 1) := by decide +kernel
theorem dX12_inCell_48 : decode cX12_inCell 48 = .ok (.ireturn, 1) := by decide +kernel
theorem dX12_move_0 : decode cX12_move 0 = .ok (.aload_n 0, 1) := by decide +kernel
theorem dX12_move_1 : decode cX12_move 1 = .ok (.iload_n 1, 1) := by decide +kernel
theorem dX12_move_2 : decode cX12_move 2 = .ok (.invokevirtual 183, 3) := by decide +kernel
theorem dX12_move_5 : decode cX12_move 5 = .ok (.ifCond .eq 11, 3) := by decide +kernel
theorem dX12_move_8 : decode cX12_move 8 = .ok (.aload_n 0, 1) := by decide +kernel
theorem dX12_move_9 : decode cX12_move 9 = .ok (.iload_n 2, 1) := by decide +kernel
theorem dX12_move_10 : decode cX12_move 10 = .ok (.invokevirtual 188, 3) := by decide +kernel
theorem dX12_move_13 : decode cX12_move 13 = .ok (.ifCond .ne 5, 3) := by decide +kernel
theorem dX12_move_16 : decode cX12_move 16 = .ok (.iconst (-1), 1) := by decide +kernel
theorem dX12_move_17 : decode cX12_move 17 = .ok (.ireturn, 1) := by decide +kernel
theorem dX12_move_18 : decode cX12_move 18 = .ok (.aload_n 0, 1) := by decide +kernel
theorem dX12_move_19 : decode cX12_move 19 = .ok (.getfield 82, 3) := by decide +kernel
theorem dX12_move_22 : decode cX12_move 22 = .ok (.iload_n 1, 1) := by decide +kernel
theorem dX12_move_23 : decode cX12_move 23 = .ok (.iaload, 1) := by decide +kernel
theorem dX12_move_24 : decode cX12_move 24 = .ok (.ifCond .ne 27, 3) := by decide +kernel
theorem dX12_move_27 : decode cX12_move 27 = .ok (.aload_n 0, 1) := by decide +kernel
theorem dX12_move_28 : decode cX12_move 28 = .ok (.getfield 76, 3) := by decide +kernel
theorem dX12_move_31 : decode cX12_move 31 = .ok (.iload_n 1, 1) := by decide +kernel
theorem dX12_move_32 : decode cX12_move 32 = .ok (.iaload, 1) := by decide +kernel
theorem dX12_move_33 : decode cX12_move 33 = .ok (.iload_n 2, 1) := by decide +kernel
theorem dX12_move_34 : decode cX12_move 34 = .ok (.if_icmp .eq 17, 3) := by decide +kernel
theorem dX12_move_37 : decode cX12_move 37 = .ok (.aload_n 0, 1) := by decide +kernel
theorem dX12_move_38 : decode cX12_move 38 = .ok (.iload_n 2, 1) := by decide +kernel
theorem dX12_move_39 : decode cX12_move 39 = .ok (.invokevirtual 199, 3) := by decide +kernel
theorem dX12_move_42 : decode cX12_move 42 = .ok (.aload_n 0, 1) := by decide +kernel
theorem dX12_move_43 : decode cX12_move 43 = .ok (.getfield 22, 3) := by decide +kernel
theorem dX12_move_46 : decode cX12_move 46 = .ok (.iload_n 2, 1) := by decide +kernel
theorem dX12_move_47 : decode cX12_move 47 = .ok (.iaload, 1) := by decide +kernel
theorem dX12_move_48 : decode cX12_move 48 = .ok (.if_icmp .ne 6, 3) := by decide +kernel
theorem dX12_move_51 : decode cX12_move 51 = .ok (.bipush (-2), 2) := by decide +kernel
theorem dX12_move_53 : decode cX12_move 53 = .ok (.ireturn, 1) := by decide +kernel
theorem dX12_move_54 : decode cX12_move 54 = .ok (.aload_n 0, 1) := by decide +kernel
theorem dX12_move_55 : decode cX12_move 55 = .ok (.getfield 76, 3) := by decide +kernel
theorem dX12_move_58 : decode cX12_move 58 = .ok (.iload_n 1, 1) := by decide +kernel
theorem dX12_move_59 : decode cX12_move 59 = .ok (.iload_n 2, 1) := by decide +kernel
theorem dX12_move_60 : decode cX12_move 60 = .ok (.iastore, 1) := by decide +kernel
theorem dX12_move_61 : decode cX12_move 61 = .ok (.aload_n 0, 1) := by decide +kernel
theorem dX12_move_62 : decode cX12_move 62 = .ok (.iload_n 2, 1) := by decide +kernel
theorem dX12_move_63 : decode cX12_move 63 = .ok (.invokevirtual 199, 3) := by decide +kernel
theorem dX12_move_66 : decode cX12_move 66 = .ok (.ireturn, 1) := by decide +kernel
theorem dX12_make_0 : decode cX12_make 0 = .ok (.aload_n 0, 1) := by decide +kernel
theorem dX12_make_1 : decode cX12_make 1 = .ok (.iload_n 1, 1) := by decide +kernel
theorem dX12_make_2 : decode cX12_make 2 = .ok (.invokevirtual 183, 3) := by decide +kernel
theorem dX12_make_5 : decode cX12_make 5 = .ok (.ifCond .eq 15, 3) := by decide +kernel
theorem dX12_make_8 : decode cX12_make 8 = .ok (.iload_n 2, 1) := by decide +kernel
theorem dX12_make_9 : decode cX12_make 9 = .ok (.i2l, 1) := by decide +kernel
theorem dX12_make_10 : decode cX12_make 10 = .ok (.lconst 0, 1) := by decide +kernel
theorem dX12_make_11 : decode cX12_make 11 = .ok (.ldc2_w 127, 3) := by decide +kernel
theorem dX12_make_14 : decode cX12_make 14 = .ok (.invokestatic 106, 3) := by decide +kernel
theorem dX12_make_17 : decode cX12_make 17 = .ok (.ifCond .ne 5, 3) := by decide +kernel
theorem dX12_make_20 : decode cX12_make 20 = .ok (.iconst (-1), 1) := by decide +kernel
theorem dX12_make_21 : decode cX12_make 21 = .ok (.ireturn, 1) := by decide +kernel
theorem dX12_make_22 : decode cX12_make 22 = .ok (.aload_n 0, 1) := by decide +kernel
theorem dX12_make_23 : decode cX12_make 23 = .ok (.getfield 73, 3) := by decide +kernel
theorem dX12_make_26 : decode cX12_make 26 = .ok (.iload_n 1, 1) := by decide +kernel
theorem dX12_make_27 : decode cX12_make 27 = .ok (.iaload, 1) := by decide +kernel
theorem dX12_make_28 : decode cX12_make 28 = .ok (.istore_n 3, 1) := by decide +kernel
theorem dX12_make_29 : decode cX12_make 29 = .ok (.iload_n 2, 1) := by decide +kernel
theorem dX12_make_30 : decode cX12_make 30 = .ok (.ifCond .ne 16, 3) := by decide +kernel
theorem dX12_make_33 : decode cX12_make 33 = .ok (.iload_n 3, 1) := by decide +kernel
theorem dX12_make_34 : decode cX12_make 34 = .ok (.iconst 3, 1) := by decide +kernel
theorem dX12_make_35 : decode cX12_make 35 = .ok (.if_icmp .ne 7, 3) := by decide +kernel
theorem dX12_make_38 : decode cX12_make 38 = .ok (.iconst 1, 1) := by decide +kernel
theorem dX12_make_39 : decode cX12_make 39 = .ok (.goto 52, 3) := by decide +kernel
theorem dX12_make_42 : decode cX12_make 42 = .ok (.iconst 0, 1) := by decide +kernel
theorem dX12_make_43 : decode cX12_make 43 = .ok (.goto 48, 3) := by decide +kernel
theorem dX12_make_46 : decode cX12_make 46 = .ok (.iload_n 2, 1) := by decide +kernel
theorem dX12_make_47 : decode cX12_make 47 = .ok (.iconst 1, 1) := by decide +kernel
theorem dX12_make_48 : decode cX12_make 48 = .ok (.if_icmp .ne 15, 3) := by decide +kernel
theorem dX12_make_51 : decode cX12_make 51 = .ok (.iload_n 3, 1) := by decide +kernel
theorem dX12_make_52 : decode cX12_make 52 = .ok (.ifCond .ne 7, 3) := by decide +kernel
theorem dX12_make_55 : decode cX12_make 55 = .ok (.iconst 1, 1) := by decide +kernel
theorem dX12_make_56 : decode cX12_make 56 = .ok (.goto 35, 3) := by decide +kernel
theorem dX12_make_59 : decode cX12_make 59 = .ok (.iconst 0, 1) := by decide +kernel
theorem dX12_make_60 : decode cX12_make 60 = .ok (.goto 31, 3) := by decide +kernel
theorem dX12_make_63 : decode cX12_make 63 = .ok (.iload_n 2, 1) := by decide +kernel
theorem dX12_make_64 : decode cX12_make 64 = .ok (.iconst 2, 1) := by decide +kernel
theorem dX12_make_65 : decode cX12_make 65 = .ok (.if_icmp .ne 16, 3) := by decide +kernel
theorem dX12_make_68 : decode cX12_make 68 = .ok (.iload_n 3, 1) := by decide +kernel
theorem dX12_make_69 : decode cX12_make 69 = .ok (.iconst 2, 1) := by decide +kernel
theorem dX12_make_70 : decode cX12_make 70 = .ok (.if_icmp .ge 7, 3) := by decide +kernel
theorem dX12_make_73 : decode cX12_make 73 = .ok (.iconst 1, 1) := by decide +kernel
theorem dX12_make_74 : decode cX12_make 74 = .ok (.goto 17, 3) := by decide +kernel
theorem dX12_make_77 : decode cX12_make 77 = .ok (.iconst 0, 1) := by decide +kernel
theorem dX12_make_78 : decode cX12_make 78 = .ok (.goto 13, 3) := by decide +kernel
theorem dX12_make_81 : decode cX12_make 81 = .ok (.iload_n 3, 1) := by decide +kernel
theorem dX12_make_82 : decode cX12_make 82 = .ok (.iconst 3, 1) := by decide +kernel
theorem dX12_make_83 : decode cX12_make 83 = .ok (.if_icmp .eq 7, 3) := by decide +kernel
theorem dX12_make_86 : decode cX12_make 86 = .ok (.iconst 1, 1) := by decide +kernel
theorem dX12_make_87 : decode cX12_make 87 = .ok (.goto 4, 3) := by decide +kernel
theorem dX12_make_90 : decode cX12_make 90 = .ok (.iconst 0, 1) := by decide +kernel
theorem dX12_make_91 : decode cX12_make 91 = .ok (.istore 4, 2) := by decide +kernel
theorem dX12_make_93 : decode cX12_make 93 = .ok (.aload_n 0, 1) := by decide +kernel
theorem dX12_make_94 : decode cX12_make 94 = .ok (.getfield 82, 3) := by decide +kernel
theorem dX12_make_97 : decode cX12_make 97 = .ok (.iload_n 1, 1) := by decide +kernel
theorem dX12_make_98 : decode cX12_make 98 = .ok (.iaload, 1) := by decide +kernel
theorem dX12_make_99 : decode cX12_make 99 = .ok (.ifCond .ne 8, 3) := by decide +kernel
theorem dX12_make_102 : decode cX12_make 102 = .ok (.iload 4, 2) := by decide +kernel
theorem dX12_make_104 : decode cX12_make 104 = .ok (.ifCond .ne 6, 3) := by decide +kernel
theorem dX12_make_107 : decode cX12_make 107 = .ok (.bipush (-2), 2) := by decide +kernel
theorem dX12_make_109 : decode cX12_make 109 = .ok (.ireturn, 1) := by decide +kernel
theorem dX12_make_110 : decode cX12_make 110 = .ok (.aload_n 0, 1) := by decide +kernel
theorem dX12_make_111 : decode cX12_make 111 = .ok (.getfield 73, 3) := by decide +kernel
theorem dX12_make_114 : decode cX12_make 114 = .ok (.iload_n 1, 1) := by decide +kernel
theorem dX12_make_115 : decode cX12_make 115 = .ok (.iload_n 2, 1) := by decide +kernel
theorem dX12_make_116 : decode cX12_make 116 = .ok (.ifCond .ne 7, 3) := by decide +kernel
theorem dX12_make_119 : decode cX12_make 119 = .ok (.iconst 1, 1) := by decide +kernel
theorem dX12_make_120 : decode cX12_make 120 = .ok (.goto 4, 3) := by decide +kernel
theorem dX12_make_123 : decode cX12_make 123 = .ok (.iload_n 2, 1) := by decide +kernel
theorem dX12_make_124 : decode cX12_make 124 = .ok (.iastore, 1) := by decide +kernel
theorem dX12_make_125 : decode cX12_make 125 = .ok (.iload_n 3, 1) := by decide +kernel
theorem dX12_make_126 : decode cX12_make 126 = .ok (.ireturn, 1) := by decide +kernel
theorem dX12_take_0 : decode cX12_take 0 = .ok (.aload_n 0, 1) := by decide +kernel
theorem dX12_take_1 : decode cX12_take 1 = .ok (.iload_n 1, 1) := by decide +kernel
theorem dX12_take_2 : decode cX12_take 2 = .ok (.invokevirtual 183, 3) := by decide +kernel
theorem dX12_take_5 : decode cX12_take 5 = .ok (.ifCond .ne 5, 3) := by decide +kernel
theorem dX12_take_8 : decode cX12_take 8 = .ok (.iconst (-1), 1) := by decide +kernel
theorem dX12_take_9 : decode cX12_take 9 = .ok (.ireturn, 1) := by decide +kernel
theorem dX12_take_10 : decode cX12_take 10 = .ok (.aload_n 0, 1) := by decide +kernel
theorem dX12_take_11 : decode cX12_take 11 = .ok (.getfield 82, 3) := by decide +kernel
theorem dX12_take_14 : decode cX12_take 14 = .ok (.iload_n 1, 1) := by decide +kernel
theorem dX12_take_15 : decode cX12_take 15 = .ok (.iaload, 1) := by decide +kernel
theorem dX12_take_16 : decode cX12_take 16 = .ok (.ifCond .eq 6, 3) := by decide +kernel
theorem dX12_take_19 : decode cX12_take 19 = .ok (.bipush (-2), 2) := by decide +kernel
theorem dX12_take_21 : decode cX12_take 21 = .ok (.ireturn, 1) := by decide +kernel
theorem dX12_take_22 : decode cX12_take 22 = .ok (.aload_n 0, 1) := by decide +kernel
theorem dX12_take_23 : decode cX12_take 23 = .ok (.getfield 82, 3) := by decide +kernel
theorem dX12_take_26 : decode cX12_take 26 = .ok (.iload_n 1, 1) := by decide +kernel
theorem dX12_take_27 : decode cX12_take 27 = .ok (.iload_n 2, 1) := by decide +kernel
theorem dX12_take_28 : decode cX12_take 28 = .ok (.iastore, 1) := by decide +kernel
theorem dX12_take_29 : decode cX12_take 29 = .ok (.aload_n 0, 1) := by decide +kernel
theorem dX12_take_30 : decode cX12_take 30 = .ok (.getfield 85, 3) := by decide +kernel
theorem dX12_take_33 : decode cX12_take 33 = .ok (.iload_n 1, 1) := by decide +kernel
theorem dX12_take_34 : decode cX12_take 34 = .ok (.aload_n 0, 1) := by decide +kernel
theorem dX12_take_35 : decode cX12_take 35 = .ok (.getfield 88, 3) := by decide +kernel
theorem dX12_take_38 : decode cX12_take 38 = .ok (.iconst 0, 1) := by decide +kernel
theorem dX12_take_39 : decode cX12_take 39 = .ok (.iaload, 1) := by decide +kernel
theorem dX12_take_40 : decode cX12_take 40 = .ok (.iastore, 1) := by decide +kernel
theorem dX12_take_41 : decode cX12_take 41 = .ok (.aload_n 0, 1) := by decide +kernel
theorem dX12_take_42 : decode cX12_take 42 = .ok (.iload_n 1, 1) := by decide +kernel
theorem dX12_take_43 : decode cX12_take 43 = .ok (.invokevirtual 180, 3) := by decide +kernel
theorem dX12_take_46 : decode cX12_take 46 = .ok (.ifCond .eq 7, 3) := by decide +kernel
theorem dX12_take_49 : decode cX12_take 49 = .ok (.iconst 1, 1) := by decide +kernel
theorem dX12_take_50 : decode cX12_take 50 = .ok (.goto 4, 3) := by decide +kernel
theorem dX12_take_53 : decode cX12_take 53 = .ok (.iconst 0, 1) := by decide +kernel
theorem dX12_take_54 : decode cX12_take 54 = .ok (.ireturn, 1) := by decide +kernel
theorem dX12_eat_0 : decode cX12_eat 0 = .ok (.aload_n 0, 1) := by decide +kernel
theorem dX12_eat_1 : decode cX12_eat 1 = .ok (.iload_n 1, 1) := by decide +kernel
theorem dX12_eat_2 : decode cX12_eat 2 = .ok (.iconst 1, 1) := by decide +kernel
theorem dX12_eat_3 : decode cX12_eat 3 = .ok (.invokevirtual 202, 3) := by decide +kernel
theorem dX12_eat_6 : decode cX12_eat 6 = .ok (.ireturn, 1) := by decide +kernel
theorem dX12_throwOut_0 : decode cX12_throwOut 0 = .ok (.aload_n 0, 1) := by decide +kernel
theorem dX12_throwOut_1 : decode cX12_throwOut 1 = .ok (.iload_n 1, 1) := by decide +kernel
theorem dX12_throwOut_2 : decode cX12_throwOut 2 = .ok (.iconst 2, 1) := by decide +kernel
theorem dX12_throwOut_3 : decode cX12_throwOut 3 = .ok (.invokevirtual 202, 3) := by decide +kernel
theorem dX12_throwOut_6 : decode cX12_throwOut 6 = .ok (.ireturn, 1) := by decide +kernel
theorem dX12_offIn_0 : decode cX12_offIn 0 = .ok (.aload_n 0, 1) := by decide +kernel
theorem dX12_offIn_1 : decode cX12_offIn 1 = .ok (.iload_n 1, 1) := by decide +kernel
theorem dX12_offIn_2 : decode cX12_offIn 2 = .ok (.invokevirtual 183, 3) := by decide +kernel
theorem dX12_offIn_5 : decode cX12_offIn 5 = .ok (.ifCond .eq 11, 3) := by decide +kernel
theorem dX12_offIn_8 : decode cX12_offIn 8 = .ok (.aload_n 0, 1) := by decide +kernel
theorem dX12_offIn_9 : decode cX12_offIn 9 = .ok (.iload_n 2, 1) := by decide +kernel
theorem dX12_offIn_10 : decode cX12_offIn 10 = .ok (.invokevirtual 188, 3) := by decide +kernel
theorem dX12_offIn_13 : decode cX12_offIn 13 = .ok (.ifCond .ne 5, 3) := by decide +kernel
theorem dX12_offIn_16 : decode cX12_offIn 16 = .ok (.iconst (-1), 1) := by decide +kernel
theorem dX12_offIn_17 : decode cX12_offIn 17 = .ok (.ireturn, 1) := by decide +kernel
theorem dX12_offIn_18 : decode cX12_offIn 18 = .ok (.aload_n 0, 1) := by decide +kernel
theorem dX12_offIn_19 : decode cX12_offIn 19 = .ok (.getfield 82, 3) := by decide +kernel
theorem dX12_offIn_22 : decode cX12_offIn 22 = .ok (.iload_n 1, 1) := by decide +kernel
theorem dX12_offIn_23 : decode cX12_offIn 23 = .ok (.iaload, 1) := by decide +kernel
theorem dX12_offIn_24 : decode cX12_offIn 24 = .ok (.ifCond .eq 6, 3) := by decide +kernel
theorem dX12_offIn_27 : decode cX12_offIn 27 = .ok (.bipush (-2), 2) := by decide +kernel
theorem dX12_offIn_29 : decode cX12_offIn 29 = .ok (.ireturn, 1) := by decide +kernel
theorem dX12_offIn_30 : decode cX12_offIn 30 = .ok (.aload_n 0, 1) := by decide +kernel
theorem dX12_offIn_31 : decode cX12_offIn 31 = .ok (.getfield 79, 3) := by decide +kernel
theorem dX12_offIn_34 : decode cX12_offIn 34 = .ok (.iload_n 1, 1) := by decide +kernel
theorem dX12_offIn_35 : decode cX12_offIn 35 = .ok (.iaload, 1) := by decide +kernel
theorem dX12_offIn_36 : decode cX12_offIn 36 = .ok (.istore_n 3, 1) := by decide +kernel
theorem dX12_offIn_37 : decode cX12_offIn 37 = .ok (.aload_n 0, 1) := by decide +kernel
theorem dX12_offIn_38 : decode cX12_offIn 38 = .ok (.iload_n 1, 1) := by decide +kernel
theorem dX12_offIn_39 : decode cX12_offIn 39 = .ok (.invokevirtual 170, 3) := by decide +kernel
theorem dX12_offIn_42 : decode cX12_offIn 42 = .ok (.istore 4, 2) := by decide +kernel
theorem dX12_offIn_44 : decode cX12_offIn 44 = .ok (.iconst 0, 1) := by decide +kernel
theorem dX12_offIn_45 : decode cX12_offIn 45 = .ok (.istore 5, 2) := by decide +kernel
theorem dX12_offIn_47 : decode cX12_offIn 47 = .ok (.iload 5, 2) := by decide +kernel
theorem dX12_offIn_49 : decode cX12_offIn 49 = .ok (.sipush 5000, 3) := by decide +kernel
theorem dX12_offIn_52 : decode cX12_offIn 52 = .ok (.if_icmp .gt 44, 3) := by decide +kernel
theorem dX12_offIn_55 : decode cX12_offIn 55 = .ok (.iload_n 3, 1) := by decide +kernel
theorem dX12_offIn_56 : decode cX12_offIn 56 = .ok (.iload 4, 2) := by decide +kernel
theorem dX12_offIn_58 : decode cX12_offIn 58 = .ok (.if_icmp .lt 6, 3) := by decide +kernel
theorem dX12_offIn_61 : decode cX12_offIn 61 = .ok (.iload 5, 2) := by decide +kernel
theorem dX12_offIn_63 : decode cX12_offIn 63 = .ok (.ireturn, 1) := by decide +kernel
theorem dX12_offIn_64 : decode cX12_offIn 64 = .ok (.iload_n 3, 1) := by decide +kernel
theorem dX12_offIn_65 : decode cX12_offIn 65 = .ok (.aload_n 0, 1) := by decide +kernel
theorem dX12_offIn_66 : decode cX12_offIn 66 = .ok (.getfield 73, 3) := by decide +kernel
theorem dX12_offIn_69 : decode cX12_offIn 69 = .ok (.iload_n 1, 1) := by decide +kernel
theorem dX12_offIn_70 : decode cX12_offIn 70 = .ok (.iaload, 1) := by decide +kernel
theorem dX12_offIn_71 : decode cX12_offIn 71 = .ok (.aload_n 0, 1) := by decide +kernel
theorem dX12_offIn_72 : decode cX12_offIn 72 = .ok (.iload_n 2, 1) := by decide +kernel
theorem dX12_offIn_73 : decode cX12_offIn 73 = .ok (.aload_n 0, 1) := by decide +kernel
theorem dX12_offIn_74 : decode cX12_offIn 74 = .ok (.getfield 88, 3) := by decide +kernel
theorem dX12_offIn_77 : decode cX12_offIn 77 = .ok (.iconst 0, 1) := by decide +kernel
theorem dX12_offIn_78 : decode cX12_offIn 78 = .ok (.iaload, 1) := by decide +kernel
theorem dX12_offIn_79 : decode cX12_offIn 79 = .ok (.iload 5, 2) := by decide +kernel
theorem dX12_offIn_81 : decode cX12_offIn 81 = .ok (.iadd, 1) := by decide +kernel
theorem dX12_offIn_82 : decode cX12_offIn 82 = .ok (.invokevirtual 173, 3) := by decide +kernel
theorem dX12_offIn_85 : decode cX12_offIn 85 = .ok (.invokestatic 177, 3) := by decide +kernel
theorem dX12_offIn_88 : decode cX12_offIn 88 = .ok (.iadd, 1) := by decide +kernel
theorem dX12_offIn_89 : decode cX12_offIn 89 = .ok (.istore_n 3, 1) := by decide +kernel
theorem dX12_offIn_90 : decode cX12_offIn 90 = .ok (.iinc 5 1, 3) := by decide +kernel
theorem dX12_offIn_93 : decode cX12_offIn 93 = .ok (.goto (-46), 3) := by decide +kernel
theorem dX12_offIn_96 : decode cX12_offIn 96 = .ok (.bipush (-4), 2) := by decide +kernel
theorem dX12_offIn_98 : decode cX12_offIn 98 = .ok (.ireturn, 1) := by decide +kernel
theorem dX12_isLater_0 : decode cX12_isLater 0 = .ok (.iload_n 0, 1) := by decide +kernel
theorem dX12_isLater_1 : decode cX12_isLater 1 = .ok (.i2l, 1) := by decide +kernel
theorem dX12_isLater_2 : decode cX12_isLater 2 = .ok (.lconst 0, 1) := by decide +kernel
theorem dX12_isLater_3 : decode cX12_isLater 3 = .ok (.ldc2_w 205, 3) := by decide +kernel
theorem dX12_isLater_6 : decode cX12_isLater 6 = .ok (.invokestatic 106, 3) := by decide +kernel
theorem dX12_isLater_9 : decode cX12_isLater 9 = .ok (.ireturn, 1) := by decide +kernel
theorem dX12_lostOf_0 : decode cX12_lostOf 0 = .ok (.iconst 0, 1) := by decide +kernel
theorem dX12_lostOf_1 : decode cX12_lostOf 1 = .ok (.istore_n 2, 1) := by decide +kernel
theorem dX12_lostOf_2 : decode cX12_lostOf 2 = .ok (.iload_n 2, 1) := by decide +kernel
theorem dX12_lostOf_3 : decode cX12_lostOf 3 = .ok (.iload_n 1, 1) := by decide +kernel
theorem dX12_lostOf_4 : decode cX12_lostOf 4 = .ok (.if_icmp .ge 14, 3) := by decide +kernel
theorem dX12_lostOf_7 : decode cX12_lostOf 7 = .ok (.aload_n 0, 1) := by decide +kernel
theorem dX12_lostOf_8 : decode cX12_lostOf 8 = .ok (.iconst 1, 1) := by decide +kernel
theorem dX12_lostOf_9 : decode cX12_lostOf 9 = .ok (.invokevirtual 196, 3) := by decide +kernel
theorem dX12_lostOf_12 : decode cX12_lostOf 12 = .ok (.iinc 2 1, 3) := by decide +kernel
theorem dX12_lostOf_15 : decode cX12_lostOf 15 = .ok (.goto (-13), 3) := by decide +kernel
theorem dX12_lostOf_18 : decode cX12_lostOf 18 = .ok (.aload_n 0, 1) := by decide +kernel
theorem dX12_lostOf_19 : decode cX12_lostOf 19 = .ok (.iconst 1, 1) := by decide +kernel
theorem dX12_lostOf_20 : decode cX12_lostOf 20 = .ok (.invokevirtual 207, 3) := by decide +kernel
theorem dX12_lostOf_23 : decode cX12_lostOf 23 = .ok (.ireturn, 1) := by decide +kernel
theorem dX12_lost_0 : decode cX12_lost 0 = .ok (.iload_n 1, 1) := by decide +kernel
theorem dX12_lost_1 : decode cX12_lost 1 = .ok (.invokestatic 210, 3) := by decide +kernel
theorem dX12_lost_4 : decode cX12_lost 4 = .ok (.ifCond .ne 5, 3) := by decide +kernel
theorem dX12_lost_7 : decode cX12_lost 7 = .ok (.iconst (-1), 1) := by decide +kernel
theorem dX12_lost_8 : decode cX12_lost 8 = .ok (.ireturn, 1) := by decide +kernel
theorem dX12_lost_9 : decode cX12_lost 9 = .ok (.aload_n 0, 1) := by decide +kernel
theorem dX12_lost_10 : decode cX12_lost 10 = .ok (.iconst 0, 1) := by decide +kernel
theorem dX12_lost_11 : decode cX12_lost 11 = .ok (.iconst 1, 1) := by decide +kernel
theorem dX12_lost_12 : decode cX12_lost 12 = .ok (.invokevirtual 213, 3) := by decide +kernel
theorem dX12_lost_15 : decode cX12_lost 15 = .ok (.aload_n 0, 1) := by decide +kernel
theorem dX12_lost_16 : decode cX12_lost 16 = .ok (.iload_n 1, 1) := by decide +kernel
theorem dX12_lost_17 : decode cX12_lost 17 = .ok (.invokevirtual 217, 3) := by decide +kernel
theorem dX12_lost_20 : decode cX12_lost 20 = .ok (.ireturn, 1) := by decide +kernel
theorem dX12_isOlder_0 : decode cX12_isOlder 0 = .ok (.aload_n 0, 1) := by decide +kernel
theorem dX12_isOlder_1 : decode cX12_isOlder 1 = .ok (.getfield 79, 3) := by decide +kernel
theorem dX12_isOlder_4 : decode cX12_isOlder 4 = .ok (.iload_n 1, 1) := by decide +kernel
theorem dX12_isOlder_5 : decode cX12_isOlder 5 = .ok (.iaload, 1) := by decide +kernel
theorem dX12_isOlder_6 : decode cX12_isOlder 6 = .ok (.i2l, 1) := by decide +kernel
theorem dX12_isOlder_7 : decode cX12_isOlder 7 = .ok (.aload_n 0, 1) := by decide +kernel
theorem dX12_isOlder_8 : decode cX12_isOlder 8 = .ok (.iload_n 2, 1) := by decide +kernel
theorem dX12_isOlder_9 : decode cX12_isOlder 9 = .ok (.invokevirtual 170, 3) := by decide +kernel
theorem dX12_isOlder_12 : decode cX12_isOlder 12 = .ok (.i2l, 1) := by decide +kernel
theorem dX12_isOlder_13 : decode cX12_isOlder 13 = .ok (.lmul, 1) := by decide +kernel
theorem dX12_isOlder_14 : decode cX12_isOlder 14 = .ok (.aload_n 0, 1) := by decide +kernel
theorem dX12_isOlder_15 : decode cX12_isOlder 15 = .ok (.getfield 79, 3) := by decide +kernel
theorem dX12_isOlder_18 : decode cX12_isOlder 18 = .ok (.iload_n 2, 1) := by decide +kernel
theorem dX12_isOlder_19 : decode cX12_isOlder 19 = .ok (.iaload, 1) := by decide +kernel
theorem dX12_isOlder_20 : decode cX12_isOlder 20 = .ok (.i2l, 1) := by decide +kernel
theorem dX12_isOlder_21 : decode cX12_isOlder 21 = .ok (.aload_n 0, 1) := by decide +kernel
theorem dX12_isOlder_22 : decode cX12_isOlder 22 = .ok (.iload_n 1, 1) := by decide +kernel
theorem dX12_isOlder_23 : decode cX12_isOlder 23 = .ok (.invokevirtual 170, 3) := by decide +kernel
theorem dX12_isOlder_26 : decode cX12_isOlder 26 = .ok (.i2l, 1) := by decide +kernel
theorem dX12_isOlder_27 : decode cX12_isOlder 27 = .ok (.lmul, 1) := by decide +kernel
theorem dX12_isOlder_28 : decode cX12_isOlder 28 = .ok (.lcmp, 1) := by decide +kernel
theorem dX12_isOlder_29 : decode cX12_isOlder 29 = .ok (.ifCond .le 7, 3) := by decide +kernel
theorem dX12_isOlder_32 : decode cX12_isOlder 32 = .ok (.iconst 1, 1) := by decide +kernel
theorem dX12_isOlder_33 : decode cX12_isOlder 33 = .ok (.goto 4, 3) := by decide +kernel
theorem dX12_isOlder_36 : decode cX12_isOlder 36 = .ok (.iconst 0, 1) := by decide +kernel
theorem dX12_isOlder_37 : decode cX12_isOlder 37 = .ok (.ireturn, 1) := by decide +kernel
theorem dX12_oldestOf_0 : decode cX12_oldestOf 0 = .ok (.bipush (-4), 2) := by decide +kernel
theorem dX12_oldestOf_2 : decode cX12_oldestOf 2 = .ok (.istore_n 2, 1) := by decide +kernel
theorem dX12_oldestOf_3 : decode cX12_oldestOf 3 = .ok (.bipush 10, 2) := by decide +kernel
theorem dX12_oldestOf_5 : decode cX12_oldestOf 5 = .ok (.istore_n 3, 1) := by decide +kernel
theorem dX12_oldestOf_6 : decode cX12_oldestOf 6 = .ok (.iload_n 3, 1) := by decide +kernel
theorem dX12_oldestOf_7 : decode cX12_oldestOf 7 = .ok (.bipush 10, 2) := by decide +kernel
theorem dX12_oldestOf_9 : decode cX12_oldestOf 9 = .ok (.aload_n 0, 1) := by decide +kernel
theorem dX12_oldestOf_10 : decode cX12_oldestOf 10 = .ok (.getfield 28, 3) := by decide +kernel
theorem dX12_oldestOf_13 : decode cX12_oldestOf 13 = .ok (.iconst 0, 1) := by decide +kernel
theorem dX12_oldestOf_14 : decode cX12_oldestOf 14 = .ok (.iaload, 1) := by decide +kernel
theorem dX12_oldestOf_15 : decode cX12_oldestOf 15 = .ok (.iadd, 1) := by decide +kernel
theorem dX12_oldestOf_16 : decode cX12_oldestOf 16 = .ok (.if_icmp .ge 70, 3) := by decide +kernel
theorem dX12_oldestOf_19 : decode cX12_oldestOf 19 = .ok (.aload_n 0, 1) := by decide +kernel
theorem dX12_oldestOf_20 : decode cX12_oldestOf 20 = .ok (.getfield 82, 3) := by decide +kernel
theorem dX12_oldestOf_23 : decode cX12_oldestOf 23 = .ok (.iload_n 3, 1) := by decide +kernel
theorem dX12_oldestOf_24 : decode cX12_oldestOf 24 = .ok (.iaload, 1) := by decide +kernel
theorem dX12_oldestOf_25 : decode cX12_oldestOf 25 = .ok (.ifCond .ne 28, 3) := by decide +kernel
theorem dX12_oldestOf_28 : decode cX12_oldestOf 28 = .ok (.aload_n 0, 1) := by decide +kernel
theorem dX12_oldestOf_29 : decode cX12_oldestOf 29 = .ok (.iload_n 3, 1) := by decide +kernel
theorem dX12_oldestOf_30 : decode cX12_oldestOf 30 = .ok (.invokevirtual 180, 3) := by decide +kernel
theorem dX12_oldestOf_33 : decode cX12_oldestOf 33 = .ok (.ifCond .ne 20, 3) := by decide +kernel
theorem dX12_oldestOf_36 : decode cX12_oldestOf 36 = .ok (.aload_n 0, 1) := by decide +kernel
theorem dX12_oldestOf_37 : decode cX12_oldestOf 37 = .ok (.getfield 46, 3) := by decide +kernel
theorem dX12_oldestOf_40 : decode cX12_oldestOf 40 = .ok (.iload_n 3, 1) := by decide +kernel
theorem dX12_oldestOf_41 : decode cX12_oldestOf 41 = .ok (.bipush 10, 2) := by decide +kernel
theorem dX12_oldestOf_43 : decode cX12_oldestOf 43 = .ok (.isub, 1) := by decide +kernel
theorem dX12_oldestOf_44 : decode cX12_oldestOf 44 = .ok (.iaload, 1) := by decide +kernel
theorem dX12_oldestOf_45 : decode cX12_oldestOf 45 = .ok (.iload_n 1, 1) := by decide +kernel
theorem dX12_oldestOf_46 : decode cX12_oldestOf 46 = .ok (.if_icmp .ne 7, 3) := by decide +kernel
theorem dX12_oldestOf_49 : decode cX12_oldestOf 49 = .ok (.iconst 1, 1) := by decide +kernel
theorem dX12_oldestOf_50 : decode cX12_oldestOf 50 = .ok (.goto 4, 3) := by decide +kernel
theorem dX12_oldestOf_53 : decode cX12_oldestOf 53 = .ok (.iconst 0, 1) := by decide +kernel
theorem dX12_oldestOf_54 : decode cX12_oldestOf 54 = .ok (.istore 4, 2) := by decide +kernel
theorem dX12_oldestOf_56 : decode cX12_oldestOf 56 = .ok (.iload 4, 2) := by decide +kernel
theorem dX12_oldestOf_58 : decode cX12_oldestOf 58 = .ok (.ifCond .eq 20, 3) := by decide +kernel
theorem dX12_oldestOf_61 : decode cX12_oldestOf 61 = .ok (.iload_n 2, 1) := by decide +kernel
theorem dX12_oldestOf_62 : decode cX12_oldestOf 62 = .ok (.ifCond .lt 12, 3) := by decide +kernel
theorem dX12_oldestOf_65 : decode cX12_oldestOf 65 = .ok (.aload_n 0, 1) := by decide +kernel
theorem dX12_oldestOf_66 : decode cX12_oldestOf 66 = .ok (.iload_n 3, 1) := by decide +kernel
theorem dX12_oldestOf_67 : decode cX12_oldestOf 67 = .ok (.iload_n 2, 1) := by decide +kernel
theorem dX12_oldestOf_68 : decode cX12_oldestOf 68 = .ok (.invokevirtual 220, 3) := by decide +kernel
theorem dX12_oldestOf_71 : decode cX12_oldestOf 71 = .ok (.ifCond .eq 7, 3) := by decide +kernel
theorem dX12_oldestOf_74 : decode cX12_oldestOf 74 = .ok (.iload_n 3, 1) := by decide +kernel
theorem dX12_oldestOf_75 : decode cX12_oldestOf 75 = .ok (.goto 4, 3) := by decide +kernel
theorem dX12_oldestOf_78 : decode cX12_oldestOf 78 = .ok (.iload_n 2, 1) := by decide +kernel
theorem dX12_oldestOf_79 : decode cX12_oldestOf 79 = .ok (.istore_n 2, 1) := by decide +kernel
theorem dX12_oldestOf_80 : decode cX12_oldestOf 80 = .ok (.iinc 3 1, 3) := by decide +kernel
theorem dX12_oldestOf_83 : decode cX12_oldestOf 83 = .ok (.goto (-77), 3) := by decide +kernel
theorem dX12_oldestOf_86 : decode cX12_oldestOf 86 = .ok (.iload_n 2, 1) := by decide +kernel
theorem dX12_oldestOf_87 : decode cX12_oldestOf 87 = .ok (.ireturn, 1) := by decide +kernel
theorem dX12_eatDish_0 : decode cX12_eatDish 0 = .ok (.iconst 0, 1) := by decide +kernel
theorem dX12_eatDish_1 : decode cX12_eatDish 1 = .ok (.istore_n 2, 1) := by decide +kernel
theorem dX12_eatDish_2 : decode cX12_eatDish 2 = .ok (.iload_n 2, 1) := by decide +kernel
theorem dX12_eatDish_3 : decode cX12_eatDish 3 = .ok (.iconst 4, 1) := by decide +kernel
theorem dX12_eatDish_4 : decode cX12_eatDish 4 = .ok (.if_icmp .ge 48, 3) := by decide +kernel
theorem dX12_eatDish_7 : decode cX12_eatDish 7 = .ok (.iload_n 1, 1) := by decide +kernel
theorem dX12_eatDish_8 : decode cX12_eatDish 8 = .ok (.iload_n 2, 1) := by decide +kernel
theorem dX12_eatDish_9 : decode cX12_eatDish 9 = .ok (.invokestatic 166, 3) := by decide +kernel
theorem dX12_eatDish_12 : decode cX12_eatDish 12 = .ok (.ifCond .eq 11, 3) := by decide +kernel
theorem dX12_eatDish_15 : decode cX12_eatDish 15 = .ok (.aload_n 0, 1) := by decide +kernel
theorem dX12_eatDish_16 : decode cX12_eatDish 16 = .ok (.iload_n 2, 1) := by decide +kernel
theorem dX12_eatDish_17 : decode cX12_eatDish 17 = .ok (.invokevirtual 223, 3) := by decide +kernel
theorem dX12_eatDish_20 : decode cX12_eatDish 20 = .ok (.goto 4, 3) := by decide +kernel
theorem dX12_eatDish_23 : decode cX12_eatDish 23 = .ok (.iconst 0, 1) := by decide +kernel
theorem dX12_eatDish_24 : decode cX12_eatDish 24 = .ok (.istore_n 3, 1) := by decide +kernel
theorem dX12_eatDish_25 : decode cX12_eatDish 25 = .ok (.iload_n 3, 1) := by decide +kernel
theorem dX12_eatDish_26 : decode cX12_eatDish 26 = .ok (.ifCond .ge 5, 3) := by decide +kernel
theorem dX12_eatDish_29 : decode cX12_eatDish 29 = .ok (.iconst 0, 1) := by decide +kernel
theorem dX12_eatDish_30 : decode cX12_eatDish 30 = .ok (.ireturn, 1) := by decide +kernel
theorem dX12_eatDish_31 : decode cX12_eatDish 31 = .ok (.iload_n 1, 1) := by decide +kernel
theorem dX12_eatDish_32 : decode cX12_eatDish 32 = .ok (.iload_n 2, 1) := by decide +kernel
theorem dX12_eatDish_33 : decode cX12_eatDish 33 = .ok (.invokestatic 166, 3) := by decide +kernel
theorem dX12_eatDish_36 : decode cX12_eatDish 36 = .ok (.ifCond .eq 10, 3) := by decide +kernel
theorem dX12_eatDish_39 : decode cX12_eatDish 39 = .ok (.aload_n 0, 1) := by decide +kernel
theorem dX12_eatDish_40 : decode cX12_eatDish 40 = .ok (.getfield 82, 3) := by decide +kernel
theorem dX12_eatDish_43 : decode cX12_eatDish 43 = .ok (.iload_n 3, 1) := by decide +kernel
theorem dX12_eatDish_44 : decode cX12_eatDish 44 = .ok (.iconst 1, 1) := by decide +kernel
theorem dX12_eatDish_45 : decode cX12_eatDish 45 = .ok (.iastore, 1) := by decide +kernel
theorem dX12_eatDish_46 : decode cX12_eatDish 46 = .ok (.iinc 2 1, 3) := by decide +kernel
theorem dX12_eatDish_49 : decode cX12_eatDish 49 = .ok (.goto (-47), 3) := by decide +kernel
theorem dX12_eatDish_52 : decode cX12_eatDish 52 = .ok (.iconst 1, 1) := by decide +kernel
theorem dX12_eatDish_53 : decode cX12_eatDish 53 = .ok (.ireturn, 1) := by decide +kernel
theorem dX12_hungryOf_0 : decode cX12_hungryOf 0 = .ok (.iconst 0, 1) := by decide +kernel
theorem dX12_hungryOf_1 : decode cX12_hungryOf 1 = .ok (.istore_n 2, 1) := by decide +kernel
theorem dX12_hungryOf_2 : decode cX12_hungryOf 2 = .ok (.iconst 0, 1) := by decide +kernel
theorem dX12_hungryOf_3 : decode cX12_hungryOf 3 = .ok (.istore_n 3, 1) := by decide +kernel
theorem dX12_hungryOf_4 : decode cX12_hungryOf 4 = .ok (.iload_n 3, 1) := by decide +kernel
theorem dX12_hungryOf_5 : decode cX12_hungryOf 5 = .ok (.aload_n 0, 1) := by decide +kernel
theorem dX12_hungryOf_6 : decode cX12_hungryOf 6 = .ok (.getfield 55, 3) := by decide +kernel
theorem dX12_hungryOf_9 : decode cX12_hungryOf 9 = .ok (.iconst 0, 1) := by decide +kernel
theorem dX12_hungryOf_10 : decode cX12_hungryOf 10 = .ok (.iaload, 1) := by decide +kernel
theorem dX12_hungryOf_11 : decode cX12_hungryOf 11 = .ok (.if_icmp .ge 32, 3) := by decide +kernel
theorem dX12_hungryOf_14 : decode cX12_hungryOf 14 = .ok (.iload_n 2, 1) := by decide +kernel
theorem dX12_hungryOf_15 : decode cX12_hungryOf 15 = .ok (.iload_n 1, 1) := by decide +kernel
theorem dX12_hungryOf_16 : decode cX12_hungryOf 16 = .ok (.ifCond .eq 14, 3) := by decide +kernel
theorem dX12_hungryOf_19 : decode cX12_hungryOf 19 = .ok (.aload_n 0, 1) := by decide +kernel
theorem dX12_hungryOf_20 : decode cX12_hungryOf 20 = .ok (.getfield 58, 3) := by decide +kernel
theorem dX12_hungryOf_23 : decode cX12_hungryOf 23 = .ok (.iload_n 3, 1) := by decide +kernel
theorem dX12_hungryOf_24 : decode cX12_hungryOf 24 = .ok (.iaload, 1) := by decide +kernel
theorem dX12_hungryOf_25 : decode cX12_hungryOf 25 = .ok (.iload_n 1, 1) := by decide +kernel
theorem dX12_hungryOf_26 : decode cX12_hungryOf 26 = .ok (.iand, 1) := by decide +kernel
theorem dX12_hungryOf_27 : decode cX12_hungryOf 27 = .ok (.ifCond .eq 7, 3) := by decide +kernel
theorem dX12_hungryOf_30 : decode cX12_hungryOf 30 = .ok (.iconst 1, 1) := by decide +kernel
theorem dX12_hungryOf_31 : decode cX12_hungryOf 31 = .ok (.goto 4, 3) := by decide +kernel
theorem dX12_hungryOf_34 : decode cX12_hungryOf 34 = .ok (.iconst 0, 1) := by decide +kernel
theorem dX12_hungryOf_35 : decode cX12_hungryOf 35 = .ok (.iadd, 1) := by decide +kernel
theorem dX12_hungryOf_36 : decode cX12_hungryOf 36 = .ok (.istore_n 2, 1) := by decide +kernel
theorem dX12_hungryOf_37 : decode cX12_hungryOf 37 = .ok (.iinc 3 1, 3) := by decide +kernel
theorem dX12_hungryOf_40 : decode cX12_hungryOf 40 = .ok (.goto (-36), 3) := by decide +kernel
theorem dX12_hungryOf_43 : decode cX12_hungryOf 43 = .ok (.iload_n 2, 1) := by decide +kernel
theorem dX12_hungryOf_44 : decode cX12_hungryOf 44 = .ok (.ireturn, 1) := by decide +kernel
theorem dX12_goToEvening_0 : decode cX12_goToEvening 0 = .ok (.aload_n 0, 1) := by decide +kernel
theorem dX12_goToEvening_1 : decode cX12_goToEvening 1 = .ok (.getfield 88, 3) := by decide +kernel
theorem dX12_goToEvening_4 : decode cX12_goToEvening 4 = .ok (.iconst 1, 1) := by decide +kernel
theorem dX12_goToEvening_5 : decode cX12_goToEvening 5 = .ok (.iaload, 1) := by decide +kernel
theorem dX12_goToEvening_6 : decode cX12_goToEvening 6 = .ok (.bipush 24, 2) := by decide +kernel
theorem dX12_goToEvening_8 : decode cX12_goToEvening 8 = .ok (.irem, 1) := by decide +kernel
theorem dX12_goToEvening_9 : decode cX12_goToEvening 9 = .ok (.bipush 18, 2) := by decide +kernel
theorem dX12_goToEvening_11 : decode cX12_goToEvening 11 = .ok (.if_icmp .eq 11, 3) := by decide +kernel
theorem dX12_goToEvening_14 : decode cX12_goToEvening 14 = .ok (.aload_n 0, 1) := by decide +kernel
theorem dX12_goToEvening_15 : decode cX12_goToEvening 15 = .ok (.iconst 1, 1) := by decide +kernel
theorem dX12_goToEvening_16 : decode cX12_goToEvening 16 = .ok (.invokevirtual 196, 3) := by decide +kernel
theorem dX12_goToEvening_19 : decode cX12_goToEvening 19 = .ok (.goto (-19), 3) := by decide +kernel
theorem dX12_goToEvening_22 : decode cX12_goToEvening 22 = .ok (.return_, 1) := by decide +kernel
theorem dX12_figure_0 : decode cX12_figure 0 = .ok (.iload_n 1, 1) := by decide +kernel
theorem dX12_figure_1 : decode cX12_figure 1 = .ok (.istore 5, 2) := by decide +kernel
theorem dX12_figure_3 : decode cX12_figure 3 = .ok (.iload_n 3, 1) := by decide +kernel
theorem dX12_figure_4 : decode cX12_figure 4 = .ok (.iconst 1, 1) := by decide +kernel
theorem dX12_figure_5 : decode cX12_figure 5 = .ok (.isub, 1) := by decide +kernel
theorem dX12_figure_6 : decode cX12_figure 6 = .ok (.istore 6, 2) := by decide +kernel
theorem dX12_figure_8 : decode cX12_figure 8 = .ok (.iload 6, 2) := by decide +kernel
theorem dX12_figure_10 : decode cX12_figure 10 = .ok (.iload 4, 2) := by decide +kernel
theorem dX12_figure_12 : decode cX12_figure 12 = .ok (.if_icmp .le 15, 3) := by decide +kernel
theorem dX12_figure_15 : decode cX12_figure 15 = .ok (.iload 5, 2) := by decide +kernel
theorem dX12_figure_17 : decode cX12_figure 17 = .ok (.iload_n 2, 1) := by decide +kernel
theorem dX12_figure_18 : decode cX12_figure 18 = .ok (.idiv, 1) := by decide +kernel
theorem dX12_figure_19 : decode cX12_figure 19 = .ok (.istore 5, 2) := by decide +kernel
theorem dX12_figure_21 : decode cX12_figure 21 = .ok (.iinc 6 (-1), 3) := by decide +kernel
theorem dX12_figure_24 : decode cX12_figure 24 = .ok (.goto (-16), 3) := by decide +kernel
theorem dX12_figure_27 : decode cX12_figure 27 = .ok (.iload 5, 2) := by decide +kernel
theorem dX12_figure_29 : decode cX12_figure 29 = .ok (.iload_n 2, 1) := by decide +kernel
theorem dX12_figure_30 : decode cX12_figure 30 = .ok (.irem, 1) := by decide +kernel
theorem dX12_figure_31 : decode cX12_figure 31 = .ok (.ireturn, 1) := by decide +kernel
theorem dX12_costOf_0 : decode cX12_costOf 0 = .ok (.aload_n 0, 1) := by decide +kernel
theorem dX12_costOf_1 : decode cX12_costOf 1 = .ok (.iconst 0, 1) := by decide +kernel
theorem dX12_costOf_2 : decode cX12_costOf 2 = .ok (.iconst 1, 1) := by decide +kernel
theorem dX12_costOf_3 : decode cX12_costOf 3 = .ok (.invokevirtual 213, 3) := by decide +kernel
theorem dX12_costOf_6 : decode cX12_costOf 6 = .ok (.iconst 0, 1) := by decide +kernel
theorem dX12_costOf_7 : decode cX12_costOf 7 = .ok (.istore_n 3, 1) := by decide +kernel
theorem dX12_costOf_8 : decode cX12_costOf 8 = .ok (.iconst 0, 1) := by decide +kernel
theorem dX12_costOf_9 : decode cX12_costOf 9 = .ok (.istore 4, 2) := by decide +kernel
theorem dX12_costOf_11 : decode cX12_costOf 11 = .ok (.iload 4, 2) := by decide +kernel
theorem dX12_costOf_13 : decode cX12_costOf 13 = .ok (.iload_n 2, 1) := by decide +kernel
theorem dX12_costOf_14 : decode cX12_costOf 14 = .ok (.if_icmp .ge 85, 3) := by decide +kernel
theorem dX12_costOf_17 : decode cX12_costOf 17 = .ok (.iload 4, 2) := by decide +kernel
theorem dX12_costOf_19 : decode cX12_costOf 19 = .ok (.ifCond .le 8, 3) := by decide +kernel
theorem dX12_costOf_22 : decode cX12_costOf 22 = .ok (.aload_n 0, 1) := by decide +kernel
theorem dX12_costOf_23 : decode cX12_costOf 23 = .ok (.iconst 1, 1) := by decide +kernel
theorem dX12_costOf_24 : decode cX12_costOf 24 = .ok (.invokevirtual 196, 3) := by decide +kernel
theorem dX12_costOf_27 : decode cX12_costOf 27 = .ok (.aload_n 0, 1) := by decide +kernel
theorem dX12_costOf_28 : decode cX12_costOf 28 = .ok (.invokevirtual 226, 3) := by decide +kernel
theorem dX12_costOf_31 : decode cX12_costOf 31 = .ok (.aload_n 0, 1) := by decide +kernel
theorem dX12_costOf_32 : decode cX12_costOf 32 = .ok (.iload_n 1, 1) := by decide +kernel
theorem dX12_costOf_33 : decode cX12_costOf 33 = .ok (.aload_n 0, 1) := by decide +kernel
theorem dX12_costOf_34 : decode cX12_costOf 34 = .ok (.getfield 49, 3) := by decide +kernel
theorem dX12_costOf_37 : decode cX12_costOf 37 = .ok (.iconst 0, 1) := by decide +kernel
theorem dX12_costOf_38 : decode cX12_costOf 38 = .ok (.iaload, 1) := by decide +kernel
theorem dX12_costOf_39 : decode cX12_costOf 39 = .ok (.iconst 1, 1) := by decide +kernel
theorem dX12_costOf_40 : decode cX12_costOf 40 = .ok (.iadd, 1) := by decide +kernel
theorem dX12_costOf_41 : decode cX12_costOf 41 = .ok (.iload_n 2, 1) := by decide +kernel
theorem dX12_costOf_42 : decode cX12_costOf 42 = .ok (.iload 4, 2) := by decide +kernel
theorem dX12_costOf_44 : decode cX12_costOf 44 = .ok (.invokevirtual 229, 3) := by decide +kernel
theorem dX12_costOf_47 : decode cX12_costOf 47 = .ok (.istore 5, 2) := by decide +kernel
theorem dX12_costOf_49 : decode cX12_costOf 49 = .ok (.iload 5, 2) := by decide +kernel
theorem dX12_costOf_51 : decode cX12_costOf 51 = .ok (.ifCond .ne 7, 3) := by decide +kernel
theorem dX12_costOf_54 : decode cX12_costOf 54 = .ok (.iconst 0, 1) := by decide +kernel
theorem dX12_costOf_55 : decode cX12_costOf 55 = .ok (.goto 12, 3) := by decide +kernel
theorem dX12_costOf_58 : decode cX12_costOf 58 = .ok (.aload_n 0, 1) := by decide +kernel
theorem dX12_costOf_59 : decode cX12_costOf 59 = .ok (.getfield 52, 3) := by decide +kernel
theorem dX12_costOf_62 : decode cX12_costOf 62 = .ok (.iload 5, 2) := by decide +kernel
theorem dX12_costOf_64 : decode cX12_costOf 64 = .ok (.iconst 1, 1) := by decide +kernel
theorem dX12_costOf_65 : decode cX12_costOf 65 = .ok (.isub, 1) := by decide +kernel
theorem dX12_costOf_66 : decode cX12_costOf 66 = .ok (.iaload, 1) := by decide +kernel
theorem dX12_costOf_67 : decode cX12_costOf 67 = .ok (.istore 6, 2) := by decide +kernel
theorem dX12_costOf_69 : decode cX12_costOf 69 = .ok (.aload_n 0, 1) := by decide +kernel
theorem dX12_costOf_70 : decode cX12_costOf 70 = .ok (.iload 6, 2) := by decide +kernel
theorem dX12_costOf_72 : decode cX12_costOf 72 = .ok (.invokevirtual 233, 3) := by decide +kernel
theorem dX12_costOf_75 : decode cX12_costOf 75 = .ok (.ifCond .ne 6, 3) := by decide +kernel
theorem dX12_costOf_78 : decode cX12_costOf 78 = .ok (.bipush (-4), 2) := by decide +kernel
theorem dX12_costOf_80 : decode cX12_costOf 80 = .ok (.ireturn, 1) := by decide +kernel
theorem dX12_costOf_81 : decode cX12_costOf 81 = .ok (.iload_n 3, 1) := by decide +kernel
theorem dX12_costOf_82 : decode cX12_costOf 82 = .ok (.bipush 10, 2) := by decide +kernel
theorem dX12_costOf_84 : decode cX12_costOf 84 = .ok (.aload_n 0, 1) := by decide +kernel
theorem dX12_costOf_85 : decode cX12_costOf 85 = .ok (.iload 6, 2) := by decide +kernel
theorem dX12_costOf_87 : decode cX12_costOf 87 = .ok (.invokevirtual 236, 3) := by decide +kernel
theorem dX12_costOf_90 : decode cX12_costOf 90 = .ok (.imul, 1) := by decide +kernel
theorem dX12_costOf_91 : decode cX12_costOf 91 = .ok (.iadd, 1) := by decide +kernel
theorem dX12_costOf_92 : decode cX12_costOf 92 = .ok (.istore_n 3, 1) := by decide +kernel
theorem dX12_costOf_93 : decode cX12_costOf 93 = .ok (.iinc 4 1, 3) := by decide +kernel
theorem dX12_costOf_96 : decode cX12_costOf 96 = .ok (.goto (-85), 3) := by decide +kernel
theorem dX12_costOf_99 : decode cX12_costOf 99 = .ok (.iload_n 3, 1) := by decide +kernel
theorem dX12_costOf_100 : decode cX12_costOf 100 = .ok (.aload_n 0, 1) := by decide +kernel
theorem dX12_costOf_101 : decode cX12_costOf 101 = .ok (.iconst 1, 1) := by decide +kernel
theorem dX12_costOf_102 : decode cX12_costOf 102 = .ok (.invokevirtual 207, 3) := by decide +kernel
theorem dX12_costOf_105 : decode cX12_costOf 105 = .ok (.iadd, 1) := by decide +kernel
theorem dX12_costOf_106 : decode cX12_costOf 106 = .ok (.ireturn, 1) := by decide +kernel
theorem dX12_plan_0 : decode cX12_plan 0 = .ok (.iload_n 1, 1) := by decide +kernel
theorem dX12_plan_1 : decode cX12_plan 1 = .ok (.i2l, 1) := by decide +kernel
theorem dX12_plan_2 : decode cX12_plan 2 = .ok (.lconst 1, 1) := by decide +kernel
theorem dX12_plan_3 : decode cX12_plan 3 = .ok (.ldc2_w 239, 3) := by decide +kernel
theorem dX12_plan_6 : decode cX12_plan 6 = .ok (.invokestatic 106, 3) := by decide +kernel
theorem dX12_plan_9 : decode cX12_plan 9 = .ok (.ifCond .eq 18, 3) := by decide +kernel
theorem dX12_plan_12 : decode cX12_plan 12 = .ok (.iload_n 2, 1) := by decide +kernel
theorem dX12_plan_13 : decode cX12_plan 13 = .ok (.i2l, 1) := by decide +kernel
theorem dX12_plan_14 : decode cX12_plan 14 = .ok (.ldc2_w 241, 3) := by decide +kernel
theorem dX12_plan_17 : decode cX12_plan 17 = .ok (.iload_n 1, 1) := by decide +kernel
theorem dX12_plan_18 : decode cX12_plan 18 = .ok (.iconst 1, 1) := by decide +kernel
theorem dX12_plan_19 : decode cX12_plan 19 = .ok (.isub, 1) := by decide +kernel
theorem dX12_plan_20 : decode cX12_plan 20 = .ok (.i2l, 1) := by decide +kernel
theorem dX12_plan_21 : decode cX12_plan 21 = .ok (.invokestatic 106, 3) := by decide +kernel
theorem dX12_plan_24 : decode cX12_plan 24 = .ok (.ifCond .ne 5, 3) := by decide +kernel
theorem dX12_plan_27 : decode cX12_plan 27 = .ok (.iconst (-1), 1) := by decide +kernel
theorem dX12_plan_28 : decode cX12_plan 28 = .ok (.ireturn, 1) := by decide +kernel
theorem dX12_plan_29 : decode cX12_plan 29 = .ok (.iconst 1, 1) := by decide +kernel
theorem dX12_plan_30 : decode cX12_plan 30 = .ok (.istore_n 3, 1) := by decide +kernel
theorem dX12_plan_31 : decode cX12_plan 31 = .ok (.iconst 0, 1) := by decide +kernel
theorem dX12_plan_32 : decode cX12_plan 32 = .ok (.istore 4, 2) := by decide +kernel
theorem dX12_plan_34 : decode cX12_plan 34 = .ok (.iload 4, 2) := by decide +kernel
theorem dX12_plan_36 : decode cX12_plan 36 = .ok (.iload_n 1, 1) := by decide +kernel
theorem dX12_plan_37 : decode cX12_plan 37 = .ok (.if_icmp .ge 20, 3) := by decide +kernel
theorem dX12_plan_40 : decode cX12_plan 40 = .ok (.iload_n 3, 1) := by decide +kernel
theorem dX12_plan_41 : decode cX12_plan 41 = .ok (.aload_n 0, 1) := by decide +kernel
theorem dX12_plan_42 : decode cX12_plan 42 = .ok (.getfield 49, 3) := by decide +kernel
theorem dX12_plan_45 : decode cX12_plan 45 = .ok (.iconst 0, 1) := by decide +kernel
theorem dX12_plan_46 : decode cX12_plan 46 = .ok (.iaload, 1) := by decide +kernel
theorem dX12_plan_47 : decode cX12_plan 47 = .ok (.iconst 1, 1) := by decide +kernel
theorem dX12_plan_48 : decode cX12_plan 48 = .ok (.iadd, 1) := by decide +kernel
theorem dX12_plan_49 : decode cX12_plan 49 = .ok (.imul, 1) := by decide +kernel
theorem dX12_plan_50 : decode cX12_plan 50 = .ok (.istore_n 3, 1) := by decide +kernel
theorem dX12_plan_51 : decode cX12_plan 51 = .ok (.iinc 4 1, 3) := by decide +kernel
theorem dX12_plan_54 : decode cX12_plan 54 = .ok (.goto (-20), 3) := by decide +kernel
theorem dX12_plan_57 : decode cX12_plan 57 = .ok (.bipush (-4), 2) := by decide +kernel
theorem dX12_plan_59 : decode cX12_plan 59 = .ok (.istore 4, 2) := by decide +kernel
theorem dX12_plan_61 : decode cX12_plan 61 = .ok (.iconst 0, 1) := by decide +kernel
theorem dX12_plan_62 : decode cX12_plan 62 = .ok (.istore 5, 2) := by decide +kernel
theorem dX12_plan_64 : decode cX12_plan 64 = .ok (.iconst 0, 1) := by decide +kernel
theorem dX12_plan_65 : decode cX12_plan 65 = .ok (.istore 6, 2) := by decide +kernel
theorem dX12_plan_67 : decode cX12_plan 67 = .ok (.iload 6, 2) := by decide +kernel
theorem dX12_plan_69 : decode cX12_plan 69 = .ok (.iload_n 3, 1) := by decide +kernel
theorem dX12_plan_70 : decode cX12_plan 70 = .ok (.if_icmp .ge 43, 3) := by decide +kernel
theorem dX12_plan_73 : decode cX12_plan 73 = .ok (.aload_n 0, 1) := by decide +kernel
theorem dX12_plan_74 : decode cX12_plan 74 = .ok (.iload 6, 2) := by decide +kernel
theorem dX12_plan_76 : decode cX12_plan 76 = .ok (.iload_n 1, 1) := by decide +kernel
theorem dX12_plan_77 : decode cX12_plan 77 = .ok (.invokevirtual 243, 3) := by decide +kernel
theorem dX12_plan_80 : decode cX12_plan 80 = .ok (.istore 7, 2) := by decide +kernel
theorem dX12_plan_82 : decode cX12_plan 82 = .ok (.iload 7, 2) := by decide +kernel
theorem dX12_plan_84 : decode cX12_plan 84 = .ok (.ifCond .lt 23, 3) := by decide +kernel
theorem dX12_plan_87 : decode cX12_plan 87 = .ok (.iload 4, 2) := by decide +kernel
theorem dX12_plan_89 : decode cX12_plan 89 = .ok (.ifCond .lt 10, 3) := by decide +kernel
theorem dX12_plan_92 : decode cX12_plan 92 = .ok (.iload 7, 2) := by decide +kernel
theorem dX12_plan_94 : decode cX12_plan 94 = .ok (.iload 5, 2) := by decide +kernel
theorem dX12_plan_96 : decode cX12_plan 96 = .ok (.if_icmp .ge 11, 3) := by decide +kernel
theorem dX12_plan_99 : decode cX12_plan 99 = .ok (.iload 6, 2) := by decide +kernel
theorem dX12_plan_101 : decode cX12_plan 101 = .ok (.istore 4, 2) := by decide +kernel
theorem dX12_plan_103 : decode cX12_plan 103 = .ok (.iload 7, 2) := by decide +kernel
theorem dX12_plan_105 : decode cX12_plan 105 = .ok (.istore 5, 2) := by decide +kernel
theorem dX12_plan_107 : decode cX12_plan 107 = .ok (.iinc 6 1, 3) := by decide +kernel
theorem dX12_plan_110 : decode cX12_plan 110 = .ok (.goto (-43), 3) := by decide +kernel
theorem dX12_plan_113 : decode cX12_plan 113 = .ok (.iload_n 2, 1) := by decide +kernel
theorem dX12_plan_114 : decode cX12_plan 114 = .ok (.ifCond .ge 6, 3) := by decide +kernel
theorem dX12_plan_117 : decode cX12_plan 117 = .ok (.iload 5, 2) := by decide +kernel
theorem dX12_plan_119 : decode cX12_plan 119 = .ok (.ireturn, 1) := by decide +kernel
theorem dX12_plan_120 : decode cX12_plan 120 = .ok (.aload_n 0, 1) := by decide +kernel
theorem dX12_plan_121 : decode cX12_plan 121 = .ok (.iload 4, 2) := by decide +kernel
theorem dX12_plan_123 : decode cX12_plan 123 = .ok (.aload_n 0, 1) := by decide +kernel
theorem dX12_plan_124 : decode cX12_plan 124 = .ok (.getfield 49, 3) := by decide +kernel
theorem dX12_plan_127 : decode cX12_plan 127 = .ok (.iconst 0, 1) := by decide +kernel
theorem dX12_plan_128 : decode cX12_plan 128 = .ok (.iaload, 1) := by decide +kernel
theorem dX12_plan_129 : decode cX12_plan 129 = .ok (.iconst 1, 1) := by decide +kernel
theorem dX12_plan_130 : decode cX12_plan 130 = .ok (.iadd, 1) := by decide +kernel
theorem dX12_plan_131 : decode cX12_plan 131 = .ok (.iload_n 1, 1) := by decide +kernel
theorem dX12_plan_132 : decode cX12_plan 132 = .ok (.iload_n 2, 1) := by decide +kernel
theorem dX12_plan_133 : decode cX12_plan 133 = .ok (.invokevirtual 229, 3) := by decide +kernel
theorem dX12_plan_136 : decode cX12_plan 136 = .ok (.istore 6, 2) := by decide +kernel
theorem dX12_plan_138 : decode cX12_plan 138 = .ok (.iload 6, 2) := by decide +kernel
theorem dX12_plan_140 : decode cX12_plan 140 = .ok (.ifCond .ne 8, 3) := by decide +kernel
theorem dX12_plan_143 : decode cX12_plan 143 = .ok (.bipush (-4), 2) := by decide +kernel
theorem dX12_plan_145 : decode cX12_plan 145 = .ok (.goto 7, 3) := by decide +kernel
theorem dX12_plan_148 : decode cX12_plan 148 = .ok (.iload 6, 2) := by decide +kernel
theorem dX12_plan_150 : decode cX12_plan 150 = .ok (.iconst 1, 1) := by decide +kernel
theorem dX12_plan_151 : decode cX12_plan 151 = .ok (.isub, 1) := by decide +kernel
theorem dX12_plan_152 : decode cX12_plan 152 = .ok (.ireturn, 1) := by decide +kernel
theorem dX12_freeze_0 : decode cX12_freeze 0 = .ok (.iload_n 1, 1) := by decide +kernel
theorem dX12_freeze_1 : decode cX12_freeze 1 = .ok (.invokestatic 210, 3) := by decide +kernel
theorem dX12_freeze_4 : decode cX12_freeze 4 = .ok (.ifCond .eq 13, 3) := by decide +kernel
theorem dX12_freeze_7 : decode cX12_freeze 7 = .ok (.iload_n 2, 1) := by decide +kernel
theorem dX12_freeze_8 : decode cX12_freeze 8 = .ok (.i2l, 1) := by decide +kernel
theorem dX12_freeze_9 : decode cX12_freeze 9 = .ok (.lconst 0, 1) := by decide +kernel
theorem dX12_freeze_10 : decode cX12_freeze 10 = .ok (.lconst 1, 1) := by decide +kernel
theorem dX12_freeze_11 : decode cX12_freeze 11 = .ok (.invokestatic 106, 3) := by decide +kernel
theorem dX12_freeze_14 : decode cX12_freeze 14 = .ok (.ifCond .ne 5, 3) := by decide +kernel
theorem dX12_freeze_17 : decode cX12_freeze 17 = .ok (.iconst (-1), 1) := by decide +kernel
theorem dX12_freeze_18 : decode cX12_freeze 18 = .ok (.ireturn, 1) := by decide +kernel
theorem dX12_freeze_19 : decode cX12_freeze 19 = .ok (.aload_n 0, 1) := by decide +kernel
theorem dX12_freeze_20 : decode cX12_freeze 20 = .ok (.iconst 0, 1) := by decide +kernel
theorem dX12_freeze_21 : decode cX12_freeze 21 = .ok (.iconst 1, 1) := by decide +kernel
theorem dX12_freeze_22 : decode cX12_freeze 22 = .ok (.invokevirtual 213, 3) := by decide +kernel
theorem dX12_freeze_25 : decode cX12_freeze 25 = .ok (.aload_n 0, 1) := by decide +kernel
theorem dX12_freeze_26 : decode cX12_freeze 26 = .ok (.iload_n 1, 1) := by decide +kernel
theorem dX12_freeze_27 : decode cX12_freeze 27 = .ok (.invokevirtual 217, 3) := by decide +kernel
theorem dX12_freeze_30 : decode cX12_freeze 30 = .ok (.istore_n 3, 1) := by decide +kernel
theorem dX12_freeze_31 : decode cX12_freeze 31 = .ok (.bipush (-4), 2) := by decide +kernel
theorem dX12_freeze_33 : decode cX12_freeze 33 = .ok (.istore 4, 2) := by decide +kernel
theorem dX12_freeze_35 : decode cX12_freeze 35 = .ok (.iconst 0, 1) := by decide +kernel
theorem dX12_freeze_36 : decode cX12_freeze 36 = .ok (.istore 5, 2) := by decide +kernel
theorem dX12_freeze_38 : decode cX12_freeze 38 = .ok (.iload 5, 2) := by decide +kernel
theorem dX12_freeze_40 : decode cX12_freeze 40 = .ok (.aload_n 0, 1) := by decide +kernel
theorem dX12_freeze_41 : decode cX12_freeze 41 = .ok (.getfield 28, 3) := by decide +kernel
theorem dX12_freeze_44 : decode cX12_freeze 44 = .ok (.iconst 0, 1) := by decide +kernel
theorem dX12_freeze_45 : decode cX12_freeze 45 = .ok (.iaload, 1) := by decide +kernel
theorem dX12_freeze_46 : decode cX12_freeze 46 = .ok (.if_icmp .ge 82, 3) := by decide +kernel
theorem dX12_freeze_49 : decode cX12_freeze 49 = .ok (.aload_n 0, 1) := by decide +kernel
theorem dX12_freeze_50 : decode cX12_freeze 50 = .ok (.getfield 82, 3) := by decide +kernel
theorem dX12_freeze_53 : decode cX12_freeze 53 = .ok (.iload 5, 2) := by decide +kernel
theorem dX12_freeze_55 : decode cX12_freeze 55 = .ok (.iaload, 1) := by decide +kernel
theorem dX12_freeze_56 : decode cX12_freeze 56 = .ok (.ifCond .ne 66, 3) := by decide +kernel
theorem dX12_freeze_59 : decode cX12_freeze 59 = .ok (.aload_n 0, 1) := by decide +kernel
theorem dX12_freeze_60 : decode cX12_freeze 60 = .ok (.getfield 73, 3) := by decide +kernel
theorem dX12_freeze_63 : decode cX12_freeze 63 = .ok (.iload 5, 2) := by decide +kernel
theorem dX12_freeze_65 : decode cX12_freeze 65 = .ok (.iaload, 1) := by decide +kernel
theorem dX12_freeze_66 : decode cX12_freeze 66 = .ok (.iconst 3, 1) := by decide +kernel
theorem dX12_freeze_67 : decode cX12_freeze 67 = .ok (.if_icmp .eq 55, 3) := by decide +kernel
theorem dX12_freeze_70 : decode cX12_freeze 70 = .ok (.aload_n 0, 1) := by decide +kernel
theorem dX12_freeze_71 : decode cX12_freeze 71 = .ok (.iconst 0, 1) := by decide +kernel
theorem dX12_freeze_72 : decode cX12_freeze 72 = .ok (.iconst 1, 1) := by decide +kernel
theorem dX12_freeze_73 : decode cX12_freeze 73 = .ok (.invokevirtual 213, 3) := by decide +kernel
theorem dX12_freeze_76 : decode cX12_freeze 76 = .ok (.aload_n 0, 1) := by decide +kernel
theorem dX12_freeze_77 : decode cX12_freeze 77 = .ok (.getfield 73, 3) := by decide +kernel
theorem dX12_freeze_80 : decode cX12_freeze 80 = .ok (.bipush 10, 2) := by decide +kernel
theorem dX12_freeze_82 : decode cX12_freeze 82 = .ok (.iload 5, 2) := by decide +kernel
theorem dX12_freeze_84 : decode cX12_freeze 84 = .ok (.iadd, 1) := by decide +kernel
theorem dX12_freeze_85 : decode cX12_freeze 85 = .ok (.iconst 3, 1) := by decide +kernel
theorem dX12_freeze_86 : decode cX12_freeze 86 = .ok (.iastore, 1) := by decide +kernel
theorem dX12_freeze_87 : decode cX12_freeze 87 = .ok (.aload_n 0, 1) := by decide +kernel
theorem dX12_freeze_88 : decode cX12_freeze 88 = .ok (.iload_n 1, 1) := by decide +kernel
theorem dX12_freeze_89 : decode cX12_freeze 89 = .ok (.invokevirtual 217, 3) := by decide +kernel
theorem dX12_freeze_92 : decode cX12_freeze 92 = .ok (.istore 6, 2) := by decide +kernel
theorem dX12_freeze_94 : decode cX12_freeze 94 = .ok (.iload 6, 2) := by decide +kernel
theorem dX12_freeze_96 : decode cX12_freeze 96 = .ok (.iload_n 3, 1) := by decide +kernel
theorem dX12_freeze_97 : decode cX12_freeze 97 = .ok (.if_icmp .ge 8, 3) := by decide +kernel
theorem dX12_freeze_100 : decode cX12_freeze 100 = .ok (.iload 5, 2) := by decide +kernel
theorem dX12_freeze_102 : decode cX12_freeze 102 = .ok (.goto 5, 3) := by decide +kernel
theorem dX12_freeze_105 : decode cX12_freeze 105 = .ok (.iload 4, 2) := by decide +kernel
theorem dX12_freeze_107 : decode cX12_freeze 107 = .ok (.istore 4, 2) := by decide +kernel
theorem dX12_freeze_109 : decode cX12_freeze 109 = .ok (.iload 6, 2) := by decide +kernel
theorem dX12_freeze_111 : decode cX12_freeze 111 = .ok (.iload_n 3, 1) := by decide +kernel
theorem dX12_freeze_112 : decode cX12_freeze 112 = .ok (.if_icmp .ge 8, 3) := by decide +kernel
theorem dX12_freeze_115 : decode cX12_freeze 115 = .ok (.iload 6, 2) := by decide +kernel
theorem dX12_freeze_117 : decode cX12_freeze 117 = .ok (.goto 4, 3) := by decide +kernel
theorem dX12_freeze_120 : decode cX12_freeze 120 = .ok (.iload_n 3, 1) := by decide +kernel
theorem dX12_freeze_121 : decode cX12_freeze 121 = .ok (.istore_n 3, 1) := by decide +kernel
theorem dX12_freeze_122 : decode cX12_freeze 122 = .ok (.iinc 5 1, 3) := by decide +kernel
theorem dX12_freeze_125 : decode cX12_freeze 125 = .ok (.goto (-87), 3) := by decide +kernel
theorem dX12_freeze_128 : decode cX12_freeze 128 = .ok (.iload 4, 2) := by decide +kernel
theorem dX12_freeze_130 : decode cX12_freeze 130 = .ok (.ifCond .ge 8, 3) := by decide +kernel
theorem dX12_freeze_133 : decode cX12_freeze 133 = .ok (.bipush (-4), 2) := by decide +kernel
theorem dX12_freeze_135 : decode cX12_freeze 135 = .ok (.goto 13, 3) := by decide +kernel
theorem dX12_freeze_138 : decode cX12_freeze 138 = .ok (.iload_n 2, 1) := by decide +kernel
theorem dX12_freeze_139 : decode cX12_freeze 139 = .ok (.ifCond .ne 8, 3) := by decide +kernel
theorem dX12_freeze_142 : decode cX12_freeze 142 = .ok (.iload 4, 2) := by decide +kernel
theorem dX12_freeze_144 : decode cX12_freeze 144 = .ok (.goto 4, 3) := by decide +kernel
theorem dX12_freeze_147 : decode cX12_freeze 147 = .ok (.iload_n 3, 1) := by decide +kernel
theorem dX12_freeze_148 : decode cX12_freeze 148 = .ok (.ireturn, 1) := by decide +kernel
theorem dX12_layAs_0 : decode cX12_layAs 0 = .ok (.aload_n 0, 1) := by decide +kernel
theorem dX12_layAs_1 : decode cX12_layAs 1 = .ok (.iconst 0, 1) := by decide +kernel
theorem dX12_layAs_2 : decode cX12_layAs 2 = .ok (.iconst 1, 1) := by decide +kernel
theorem dX12_layAs_3 : decode cX12_layAs 3 = .ok (.invokevirtual 213, 3) := by decide +kernel
theorem dX12_layAs_6 : decode cX12_layAs 6 = .ok (.iconst 0, 1) := by decide +kernel
theorem dX12_layAs_7 : decode cX12_layAs 7 = .ok (.istore_n 3, 1) := by decide +kernel
theorem dX12_layAs_8 : decode cX12_layAs 8 = .ok (.iconst 0, 1) := by decide +kernel
theorem dX12_layAs_9 : decode cX12_layAs 9 = .ok (.istore 4, 2) := by decide +kernel
theorem dX12_layAs_11 : decode cX12_layAs 11 = .ok (.iload 4, 2) := by decide +kernel
theorem dX12_layAs_13 : decode cX12_layAs 13 = .ok (.aload_n 0, 1) := by decide +kernel
theorem dX12_layAs_14 : decode cX12_layAs 14 = .ok (.getfield 28, 3) := by decide +kernel
theorem dX12_layAs_17 : decode cX12_layAs 17 = .ok (.iconst 0, 1) := by decide +kernel
theorem dX12_layAs_18 : decode cX12_layAs 18 = .ok (.iaload, 1) := by decide +kernel
theorem dX12_layAs_19 : decode cX12_layAs 19 = .ok (.if_icmp .ge 50, 3) := by decide +kernel
theorem dX12_layAs_22 : decode cX12_layAs 22 = .ok (.iload_n 3, 1) := by decide +kernel
theorem dX12_layAs_23 : decode cX12_layAs 23 = .ok (.iload_n 2, 1) := by decide +kernel
theorem dX12_layAs_24 : decode cX12_layAs 24 = .ok (.if_icmp .ge 45, 3) := by decide +kernel
theorem dX12_layAs_27 : decode cX12_layAs 27 = .ok (.aload_n 0, 1) := by decide +kernel
theorem dX12_layAs_28 : decode cX12_layAs 28 = .ok (.getfield 82, 3) := by decide +kernel
theorem dX12_layAs_31 : decode cX12_layAs 31 = .ok (.iload 4, 2) := by decide +kernel
theorem dX12_layAs_33 : decode cX12_layAs 33 = .ok (.iaload, 1) := by decide +kernel
theorem dX12_layAs_34 : decode cX12_layAs 34 = .ok (.ifCond .ne 29, 3) := by decide +kernel
theorem dX12_layAs_37 : decode cX12_layAs 37 = .ok (.aload_n 0, 1) := by decide +kernel
theorem dX12_layAs_38 : decode cX12_layAs 38 = .ok (.getfield 76, 3) := by decide +kernel
theorem dX12_layAs_41 : decode cX12_layAs 41 = .ok (.bipush 10, 2) := by decide +kernel
theorem dX12_layAs_43 : decode cX12_layAs 43 = .ok (.iload 4, 2) := by decide +kernel
theorem dX12_layAs_45 : decode cX12_layAs 45 = .ok (.iadd, 1) := by decide +kernel
theorem dX12_layAs_46 : decode cX12_layAs 46 = .ok (.aload_n 0, 1) := by decide +kernel
theorem dX12_layAs_47 : decode cX12_layAs 47 = .ok (.iload_n 1, 1) := by decide +kernel
theorem dX12_layAs_48 : decode cX12_layAs 48 = .ok (.aload_n 0, 1) := by decide +kernel
theorem dX12_layAs_49 : decode cX12_layAs 49 = .ok (.getfield 13, 3) := by decide +kernel
theorem dX12_layAs_52 : decode cX12_layAs 52 = .ok (.iconst 0, 1) := by decide +kernel
theorem dX12_layAs_53 : decode cX12_layAs 53 = .ok (.iaload, 1) := by decide +kernel
theorem dX12_layAs_54 : decode cX12_layAs 54 = .ok (.iload_n 2, 1) := by decide +kernel
theorem dX12_layAs_55 : decode cX12_layAs 55 = .ok (.iload_n 3, 1) := by decide +kernel
theorem dX12_layAs_56 : decode cX12_layAs 56 = .ok (.invokevirtual 229, 3) := by decide +kernel
theorem dX12_layAs_59 : decode cX12_layAs 59 = .ok (.iastore, 1) := by decide +kernel
theorem dX12_layAs_60 : decode cX12_layAs 60 = .ok (.iinc 3 1, 3) := by decide +kernel
theorem dX12_layAs_63 : decode cX12_layAs 63 = .ok (.iinc 4 1, 3) := by decide +kernel
theorem dX12_layAs_66 : decode cX12_layAs 66 = .ok (.goto (-55), 3) := by decide +kernel
theorem dX12_layAs_69 : decode cX12_layAs 69 = .ok (.iconst 1, 1) := by decide +kernel
theorem dX12_layAs_70 : decode cX12_layAs 70 = .ok (.istore 4, 2) := by decide +kernel
theorem dX12_layAs_72 : decode cX12_layAs 72 = .ok (.iconst 0, 1) := by decide +kernel
theorem dX12_layAs_73 : decode cX12_layAs 73 = .ok (.istore 5, 2) := by decide +kernel
theorem dX12_layAs_75 : decode cX12_layAs 75 = .ok (.iload 5, 2) := by decide +kernel
theorem dX12_layAs_77 : decode cX12_layAs 77 = .ok (.aload_n 0, 1) := by decide +kernel
theorem dX12_layAs_78 : decode cX12_layAs 78 = .ok (.getfield 13, 3) := by decide +kernel
theorem dX12_layAs_81 : decode cX12_layAs 81 = .ok (.iconst 0, 1) := by decide +kernel
theorem dX12_layAs_82 : decode cX12_layAs 82 = .ok (.iaload, 1) := by decide +kernel
theorem dX12_layAs_83 : decode cX12_layAs 83 = .ok (.if_icmp .ge 92, 3) := by decide +kernel
theorem dX12_layAs_86 : decode cX12_layAs 86 = .ok (.iconst 0, 1) := by decide +kernel
theorem dX12_layAs_87 : decode cX12_layAs 87 = .ok (.istore 6, 2) := by decide +kernel
theorem dX12_layAs_89 : decode cX12_layAs 89 = .ok (.bipush 10, 2) := by decide +kernel
theorem dX12_layAs_91 : decode cX12_layAs 91 = .ok (.istore 7, 2) := by decide +kernel
theorem dX12_layAs_93 : decode cX12_layAs 93 = .ok (.iload 7, 2) := by decide +kernel
theorem dX12_layAs_95 : decode cX12_layAs 95 = .ok (.bipush 10, 2) := by decide +kernel
theorem dX12_layAs_97 : decode cX12_layAs 97 = .ok (.aload_n 0, 1) := by decide +kernel
theorem dX12_layAs_98 : decode cX12_layAs 98 = .ok (.getfield 28, 3) := by decide +kernel
theorem dX12_layAs_101 : decode cX12_layAs 101 = .ok (.iconst 0, 1) := by decide +kernel
theorem dX12_layAs_102 : decode cX12_layAs 102 = .ok (.iaload, 1) := by decide +kernel
theorem dX12_layAs_103 : decode cX12_layAs 103 = .ok (.iadd, 1) := by decide +kernel
theorem dX12_layAs_104 : decode cX12_layAs 104 = .ok (.if_icmp .ge 41, 3) := by decide +kernel
theorem dX12_layAs_107 : decode cX12_layAs 107 = .ok (.iload 6, 2) := by decide +kernel
theorem dX12_layAs_109 : decode cX12_layAs 109 = .ok (.aload_n 0, 1) := by decide +kernel
theorem dX12_layAs_110 : decode cX12_layAs 110 = .ok (.getfield 82, 3) := by decide +kernel
theorem dX12_layAs_113 : decode cX12_layAs 113 = .ok (.iload 7, 2) := by decide +kernel
theorem dX12_layAs_115 : decode cX12_layAs 115 = .ok (.iaload, 1) := by decide +kernel
theorem dX12_layAs_116 : decode cX12_layAs 116 = .ok (.ifCond .ne 19, 3) := by decide +kernel
theorem dX12_layAs_119 : decode cX12_layAs 119 = .ok (.aload_n 0, 1) := by decide +kernel
theorem dX12_layAs_120 : decode cX12_layAs 120 = .ok (.getfield 76, 3) := by decide +kernel
theorem dX12_layAs_123 : decode cX12_layAs 123 = .ok (.iload 7, 2) := by decide +kernel
theorem dX12_layAs_125 : decode cX12_layAs 125 = .ok (.iaload, 1) := by decide +kernel
theorem dX12_layAs_126 : decode cX12_layAs 126 = .ok (.iload 5, 2) := by decide +kernel
theorem dX12_layAs_128 : decode cX12_layAs 128 = .ok (.if_icmp .ne 7, 3) := by decide +kernel
theorem dX12_layAs_131 : decode cX12_layAs 131 = .ok (.iconst 1, 1) := by decide +kernel
theorem dX12_layAs_132 : decode cX12_layAs 132 = .ok (.goto 4, 3) := by decide +kernel
theorem dX12_layAs_135 : decode cX12_layAs 135 = .ok (.iconst 0, 1) := by decide +kernel
theorem dX12_layAs_136 : decode cX12_layAs 136 = .ok (.iadd, 1) := by decide +kernel
theorem dX12_layAs_137 : decode cX12_layAs 137 = .ok (.istore 6, 2) := by decide +kernel
theorem dX12_layAs_139 : decode cX12_layAs 139 = .ok (.iinc 7 1, 3) := by decide +kernel
theorem dX12_layAs_142 : decode cX12_layAs 142 = .ok (.goto (-49), 3) := by decide +kernel
theorem dX12_layAs_145 : decode cX12_layAs 145 = .ok (.iload 4, 2) := by decide +kernel
theorem dX12_layAs_147 : decode cX12_layAs 147 = .ok (.ifCond .eq 19, 3) := by decide +kernel
theorem dX12_layAs_150 : decode cX12_layAs 150 = .ok (.iload 6, 2) := by decide +kernel
theorem dX12_layAs_152 : decode cX12_layAs 152 = .ok (.aload_n 0, 1) := by decide +kernel
theorem dX12_layAs_153 : decode cX12_layAs 153 = .ok (.getfield 22, 3) := by decide +kernel
theorem dX12_layAs_156 : decode cX12_layAs 156 = .ok (.iload 5, 2) := by decide +kernel
theorem dX12_layAs_158 : decode cX12_layAs 158 = .ok (.iaload, 1) := by decide +kernel
theorem dX12_layAs_159 : decode cX12_layAs 159 = .ok (.if_icmp .gt 7, 3) := by decide +kernel
theorem dX12_layAs_162 : decode cX12_layAs 162 = .ok (.iconst 1, 1) := by decide +kernel
theorem dX12_layAs_163 : decode cX12_layAs 163 = .ok (.goto 4, 3) := by decide +kernel
theorem dX12_layAs_166 : decode cX12_layAs 166 = .ok (.iconst 0, 1) := by decide +kernel
theorem dX12_layAs_167 : decode cX12_layAs 167 = .ok (.istore 4, 2) := by decide +kernel
theorem dX12_layAs_169 : decode cX12_layAs 169 = .ok (.iinc 5 1, 3) := by decide +kernel
theorem dX12_layAs_172 : decode cX12_layAs 172 = .ok (.goto (-97), 3) := by decide +kernel
theorem dX12_layAs_175 : decode cX12_layAs 175 = .ok (.iload 4, 2) := by decide +kernel
theorem dX12_layAs_177 : decode cX12_layAs 177 = .ok (.ireturn, 1) := by decide +kernel
theorem dX12_thereMany_0 : decode cX12_thereMany 0 = .ok (.iconst 0, 1) := by decide +kernel
theorem dX12_thereMany_1 : decode cX12_thereMany 1 = .ok (.istore_n 1, 1) := by decide +kernel
theorem dX12_thereMany_2 : decode cX12_thereMany 2 = .ok (.iconst 0, 1) := by decide +kernel
theorem dX12_thereMany_3 : decode cX12_thereMany 3 = .ok (.istore_n 2, 1) := by decide +kernel
theorem dX12_thereMany_4 : decode cX12_thereMany 4 = .ok (.iload_n 2, 1) := by decide +kernel
theorem dX12_thereMany_5 : decode cX12_thereMany 5 = .ok (.aload_n 0, 1) := by decide +kernel
theorem dX12_thereMany_6 : decode cX12_thereMany 6 = .ok (.getfield 28, 3) := by decide +kernel
theorem dX12_thereMany_9 : decode cX12_thereMany 9 = .ok (.iconst 0, 1) := by decide +kernel
theorem dX12_thereMany_10 : decode cX12_thereMany 10 = .ok (.iaload, 1) := by decide +kernel
theorem dX12_thereMany_11 : decode cX12_thereMany 11 = .ok (.if_icmp .ge 26, 3) := by decide +kernel
theorem dX12_thereMany_14 : decode cX12_thereMany 14 = .ok (.iload_n 1, 1) := by decide +kernel
theorem dX12_thereMany_15 : decode cX12_thereMany 15 = .ok (.aload_n 0, 1) := by decide +kernel
theorem dX12_thereMany_16 : decode cX12_thereMany 16 = .ok (.getfield 82, 3) := by decide +kernel
theorem dX12_thereMany_19 : decode cX12_thereMany 19 = .ok (.iload_n 2, 1) := by decide +kernel
theorem dX12_thereMany_20 : decode cX12_thereMany 20 = .ok (.iaload, 1) := by decide +kernel
theorem dX12_thereMany_21 : decode cX12_thereMany 21 = .ok (.ifCond .ne 7, 3) := by decide +kernel
theorem dX12_thereMany_24 : decode cX12_thereMany 24 = .ok (.iconst 1, 1) := by decide +kernel
theorem dX12_thereMany_25 : decode cX12_thereMany 25 = .ok (.goto 4, 3) := by decide +kernel
theorem dX12_thereMany_28 : decode cX12_thereMany 28 = .ok (.iconst 0, 1) := by decide +kernel
theorem dX12_thereMany_29 : decode cX12_thereMany 29 = .ok (.iadd, 1) := by decide +kernel
theorem dX12_thereMany_30 : decode cX12_thereMany 30 = .ok (.istore_n 1, 1) := by decide +kernel
theorem dX12_thereMany_31 : decode cX12_thereMany 31 = .ok (.iinc 2 1, 3) := by decide +kernel
theorem dX12_thereMany_34 : decode cX12_thereMany 34 = .ok (.goto (-30), 3) := by decide +kernel
theorem dX12_thereMany_37 : decode cX12_thereMany 37 = .ok (.iload_n 1, 1) := by decide +kernel
theorem dX12_thereMany_38 : decode cX12_thereMany 38 = .ok (.ireturn, 1) := by decide +kernel
theorem dX12_lie_0 : decode cX12_lie 0 = .ok (.iload_n 1, 1) := by decide +kernel
theorem dX12_lie_1 : decode cX12_lie 1 = .ok (.i2l, 1) := by decide +kernel
theorem dX12_lie_2 : decode cX12_lie 2 = .ok (.lconst 1, 1) := by decide +kernel
theorem dX12_lie_3 : decode cX12_lie 3 = .ok (.ldc2_w 239, 3) := by decide +kernel
theorem dX12_lie_6 : decode cX12_lie 6 = .ok (.invokestatic 106, 3) := by decide +kernel
theorem dX12_lie_9 : decode cX12_lie 9 = .ok (.ifCond .eq 25, 3) := by decide +kernel
theorem dX12_lie_12 : decode cX12_lie 12 = .ok (.iload_n 2, 1) := by decide +kernel
theorem dX12_lie_13 : decode cX12_lie 13 = .ok (.invokestatic 210, 3) := by decide +kernel
theorem dX12_lie_16 : decode cX12_lie 16 = .ok (.ifCond .eq 18, 3) := by decide +kernel
theorem dX12_lie_19 : decode cX12_lie 19 = .ok (.iload_n 3, 1) := by decide +kernel
theorem dX12_lie_20 : decode cX12_lie 20 = .ok (.i2l, 1) := by decide +kernel
theorem dX12_lie_21 : decode cX12_lie 21 = .ok (.ldc2_w 241, 3) := by decide +kernel
theorem dX12_lie_24 : decode cX12_lie 24 = .ok (.iload_n 1, 1) := by decide +kernel
theorem dX12_lie_25 : decode cX12_lie 25 = .ok (.iconst 1, 1) := by decide +kernel
theorem dX12_lie_26 : decode cX12_lie 26 = .ok (.isub, 1) := by decide +kernel
theorem dX12_lie_27 : decode cX12_lie 27 = .ok (.i2l, 1) := by decide +kernel
theorem dX12_lie_28 : decode cX12_lie 28 = .ok (.invokestatic 106, 3) := by decide +kernel
theorem dX12_lie_31 : decode cX12_lie 31 = .ok (.ifCond .ne 5, 3) := by decide +kernel
theorem dX12_lie_34 : decode cX12_lie 34 = .ok (.iconst (-1), 1) := by decide +kernel
theorem dX12_lie_35 : decode cX12_lie 35 = .ok (.ireturn, 1) := by decide +kernel
theorem dX12_lie_36 : decode cX12_lie 36 = .ok (.aload_n 0, 1) := by decide +kernel
theorem dX12_lie_37 : decode cX12_lie 37 = .ok (.invokevirtual 246, 3) := by decide +kernel
theorem dX12_lie_40 : decode cX12_lie 40 = .ok (.iload_n 1, 1) := by decide +kernel
theorem dX12_lie_41 : decode cX12_lie 41 = .ok (.if_icmp .ge 6, 3) := by decide +kernel
theorem dX12_lie_44 : decode cX12_lie 44 = .ok (.bipush (-4), 2) := by decide +kernel
theorem dX12_lie_46 : decode cX12_lie 46 = .ok (.ireturn, 1) := by decide +kernel
theorem dX12_lie_47 : decode cX12_lie 47 = .ok (.iconst 1, 1) := by decide +kernel
theorem dX12_lie_48 : decode cX12_lie 48 = .ok (.istore 4, 2) := by decide +kernel
theorem dX12_lie_50 : decode cX12_lie 50 = .ok (.iconst 0, 1) := by decide +kernel
theorem dX12_lie_51 : decode cX12_lie 51 = .ok (.istore 5, 2) := by decide +kernel
theorem dX12_lie_53 : decode cX12_lie 53 = .ok (.iload 5, 2) := by decide +kernel
theorem dX12_lie_55 : decode cX12_lie 55 = .ok (.iload_n 1, 1) := by decide +kernel
theorem dX12_lie_56 : decode cX12_lie 56 = .ok (.if_icmp .ge 20, 3) := by decide +kernel
theorem dX12_lie_59 : decode cX12_lie 59 = .ok (.iload 4, 2) := by decide +kernel
theorem dX12_lie_61 : decode cX12_lie 61 = .ok (.aload_n 0, 1) := by decide +kernel
theorem dX12_lie_62 : decode cX12_lie 62 = .ok (.getfield 13, 3) := by decide +kernel
theorem dX12_lie_65 : decode cX12_lie 65 = .ok (.iconst 0, 1) := by decide +kernel
theorem dX12_lie_66 : decode cX12_lie 66 = .ok (.iaload, 1) := by decide +kernel
theorem dX12_lie_67 : decode cX12_lie 67 = .ok (.imul, 1) := by decide +kernel
theorem dX12_lie_68 : decode cX12_lie 68 = .ok (.istore 4, 2) := by decide +kernel
theorem dX12_lie_70 : decode cX12_lie 70 = .ok (.iinc 5 1, 3) := by decide +kernel
theorem dX12_lie_73 : decode cX12_lie 73 = .ok (.goto (-20), 3) := by decide +kernel
theorem dX12_lie_76 : decode cX12_lie 76 = .ok (.bipush (-4), 2) := by decide +kernel
theorem dX12_lie_78 : decode cX12_lie 78 = .ok (.istore 5, 2) := by decide +kernel
theorem dX12_lie_80 : decode cX12_lie 80 = .ok (.iconst 0, 1) := by decide +kernel
theorem dX12_lie_81 : decode cX12_lie 81 = .ok (.istore 6, 2) := by decide +kernel
theorem dX12_lie_83 : decode cX12_lie 83 = .ok (.iconst 0, 1) := by decide +kernel
theorem dX12_lie_84 : decode cX12_lie 84 = .ok (.istore 7, 2) := by decide +kernel
theorem dX12_lie_86 : decode cX12_lie 86 = .ok (.iload 7, 2) := by decide +kernel
theorem dX12_lie_88 : decode cX12_lie 88 = .ok (.iload 4, 2) := by decide +kernel
theorem dX12_lie_90 : decode cX12_lie 90 = .ok (.if_icmp .ge 56, 3) := by decide +kernel
theorem dX12_lie_93 : decode cX12_lie 93 = .ok (.aload_n 0, 1) := by decide +kernel
theorem dX12_lie_94 : decode cX12_lie 94 = .ok (.iload 7, 2) := by decide +kernel
theorem dX12_lie_96 : decode cX12_lie 96 = .ok (.iload_n 1, 1) := by decide +kernel
theorem dX12_lie_97 : decode cX12_lie 97 = .ok (.invokevirtual 249, 3) := by decide +kernel
theorem dX12_lie_100 : decode cX12_lie 100 = .ok (.ifCond .eq 11, 3) := by decide +kernel
theorem dX12_lie_103 : decode cX12_lie 103 = .ok (.aload_n 0, 1) := by decide +kernel
theorem dX12_lie_104 : decode cX12_lie 104 = .ok (.iload_n 2, 1) := by decide +kernel
theorem dX12_lie_105 : decode cX12_lie 105 = .ok (.invokevirtual 217, 3) := by decide +kernel
theorem dX12_lie_108 : decode cX12_lie 108 = .ok (.goto 5, 3) := by decide +kernel
theorem dX12_lie_111 : decode cX12_lie 111 = .ok (.bipush (-4), 2) := by decide +kernel
theorem dX12_lie_113 : decode cX12_lie 113 = .ok (.istore 8, 2) := by decide +kernel
theorem dX12_lie_115 : decode cX12_lie 115 = .ok (.iload 8, 2) := by decide +kernel
theorem dX12_lie_117 : decode cX12_lie 117 = .ok (.ifCond .lt 23, 3) := by decide +kernel
theorem dX12_lie_120 : decode cX12_lie 120 = .ok (.iload 5, 2) := by decide +kernel
theorem dX12_lie_122 : decode cX12_lie 122 = .ok (.ifCond .lt 10, 3) := by decide +kernel
theorem dX12_lie_125 : decode cX12_lie 125 = .ok (.iload 8, 2) := by decide +kernel
theorem dX12_lie_127 : decode cX12_lie 127 = .ok (.iload 6, 2) := by decide +kernel
theorem dX12_lie_129 : decode cX12_lie 129 = .ok (.if_icmp .ge 11, 3) := by decide +kernel
theorem dX12_lie_132 : decode cX12_lie 132 = .ok (.iload 7, 2) := by decide +kernel
theorem dX12_lie_134 : decode cX12_lie 134 = .ok (.istore 5, 2) := by decide +kernel
theorem dX12_lie_136 : decode cX12_lie 136 = .ok (.iload 8, 2) := by decide +kernel
theorem dX12_lie_138 : decode cX12_lie 138 = .ok (.istore 6, 2) := by decide +kernel
theorem dX12_lie_140 : decode cX12_lie 140 = .ok (.iinc 7 1, 3) := by decide +kernel
theorem dX12_lie_143 : decode cX12_lie 143 = .ok (.goto (-57), 3) := by decide +kernel
theorem dX12_lie_146 : decode cX12_lie 146 = .ok (.iload_n 3, 1) := by decide +kernel
theorem dX12_lie_147 : decode cX12_lie 147 = .ok (.ifCond .ge 8, 3) := by decide +kernel
theorem dX12_lie_150 : decode cX12_lie 150 = .ok (.iload 6, 2) := by decide +kernel
theorem dX12_lie_152 : decode cX12_lie 152 = .ok (.goto 17, 3) := by decide +kernel
theorem dX12_lie_155 : decode cX12_lie 155 = .ok (.aload_n 0, 1) := by decide +kernel
theorem dX12_lie_156 : decode cX12_lie 156 = .ok (.iload 5, 2) := by decide +kernel
theorem dX12_lie_158 : decode cX12_lie 158 = .ok (.aload_n 0, 1) := by decide +kernel
theorem dX12_lie_159 : decode cX12_lie 159 = .ok (.getfield 13, 3) := by decide +kernel
theorem dX12_lie_162 : decode cX12_lie 162 = .ok (.iconst 0, 1) := by decide +kernel
theorem dX12_lie_163 : decode cX12_lie 163 = .ok (.iaload, 1) := by decide +kernel
theorem dX12_lie_164 : decode cX12_lie 164 = .ok (.iload_n 1, 1) := by decide +kernel
theorem dX12_lie_165 : decode cX12_lie 165 = .ok (.iload_n 3, 1) := by decide +kernel
theorem dX12_lie_166 : decode cX12_lie 166 = .ok (.invokevirtual 229, 3) := by decide +kernel
theorem dX12_lie_169 : decode cX12_lie 169 = .ok (.ireturn, 1) := by decide +kernel
theorem dX12_expectOf_0 : decode cX12_expectOf 0 = .ok (.iload_n 1, 1) := by decide +kernel
theorem dX12_expectOf_1 : decode cX12_expectOf 1 = .ok (.aload_n 0, 1) := by decide +kernel
theorem dX12_expectOf_2 : decode cX12_expectOf 2 = .ok (.getfield 70, 3) := by decide +kernel
theorem dX12_expectOf_5 : decode cX12_expectOf 5 = .ok (.iconst 0, 1) := by decide +kernel
theorem dX12_expectOf_6 : decode cX12_expectOf 6 = .ok (.iaload, 1) := by decide +kernel
theorem dX12_expectOf_7 : decode cX12_expectOf 7 = .ok (.imul, 1) := by decide +kernel
theorem dX12_expectOf_8 : decode cX12_expectOf 8 = .ok (.istore_n 2, 1) := by decide +kernel
theorem dX12_expectOf_9 : decode cX12_expectOf 9 = .ok (.iload_n 1, 1) := by decide +kernel
theorem dX12_expectOf_10 : decode cX12_expectOf 10 = .ok (.iconst 2, 1) := by decide +kernel
theorem dX12_expectOf_11 : decode cX12_expectOf 11 = .ok (.idiv, 1) := by decide +kernel
theorem dX12_expectOf_12 : decode cX12_expectOf 12 = .ok (.aload_n 0, 1) := by decide +kernel
theorem dX12_expectOf_13 : decode cX12_expectOf 13 = .ok (.getfield 70, 3) := by decide +kernel
theorem dX12_expectOf_16 : decode cX12_expectOf 16 = .ok (.iconst 1, 1) := by decide +kernel
theorem dX12_expectOf_17 : decode cX12_expectOf 17 = .ok (.iaload, 1) := by decide +kernel
theorem dX12_expectOf_18 : decode cX12_expectOf 18 = .ok (.imul, 1) := by decide +kernel
theorem dX12_expectOf_19 : decode cX12_expectOf 19 = .ok (.iload_n 1, 1) := by decide +kernel
theorem dX12_expectOf_20 : decode cX12_expectOf 20 = .ok (.iconst 2, 1) := by decide +kernel
theorem dX12_expectOf_21 : decode cX12_expectOf 21 = .ok (.irem, 1) := by decide +kernel
theorem dX12_expectOf_22 : decode cX12_expectOf 22 = .ok (.aload_n 0, 1) := by decide +kernel
theorem dX12_expectOf_23 : decode cX12_expectOf 23 = .ok (.getfield 70, 3) := by decide +kernel
theorem dX12_expectOf_26 : decode cX12_expectOf 26 = .ok (.iconst 0, 1) := by decide +kernel
theorem dX12_expectOf_27 : decode cX12_expectOf 27 = .ok (.iaload, 1) := by decide +kernel
theorem dX12_expectOf_28 : decode cX12_expectOf 28 = .ok (.imul, 1) := by decide +kernel
theorem dX12_expectOf_29 : decode cX12_expectOf 29 = .ok (.iadd, 1) := by decide +kernel
theorem dX12_expectOf_30 : decode cX12_expectOf 30 = .ok (.istore_n 3, 1) := by decide +kernel
theorem dX12_expectOf_31 : decode cX12_expectOf 31 = .ok (.iload_n 2, 1) := by decide +kernel
theorem dX12_expectOf_32 : decode cX12_expectOf 32 = .ok (.iload_n 3, 1) := by decide +kernel
theorem dX12_expectOf_33 : decode cX12_expectOf 33 = .ok (.if_icmp .ge 7, 3) := by decide +kernel
theorem dX12_expectOf_36 : decode cX12_expectOf 36 = .ok (.iload_n 2, 1) := by decide +kernel
theorem dX12_expectOf_37 : decode cX12_expectOf 37 = .ok (.goto 4, 3) := by decide +kernel
theorem dX12_expectOf_40 : decode cX12_expectOf 40 = .ok (.iload_n 3, 1) := by decide +kernel
theorem dX12_expectOf_41 : decode cX12_expectOf 41 = .ok (.istore 4, 2) := by decide +kernel
theorem dX12_expectOf_43 : decode cX12_expectOf 43 = .ok (.iconst 0, 1) := by decide +kernel
theorem dX12_expectOf_44 : decode cX12_expectOf 44 = .ok (.istore 5, 2) := by decide +kernel
theorem dX12_expectOf_46 : decode cX12_expectOf 46 = .ok (.iconst 0, 1) := by decide +kernel
theorem dX12_expectOf_47 : decode cX12_expectOf 47 = .ok (.istore 6, 2) := by decide +kernel
theorem dX12_expectOf_49 : decode cX12_expectOf 49 = .ok (.iload 6, 2) := by decide +kernel
theorem dX12_expectOf_51 : decode cX12_expectOf 51 = .ok (.aload_n 0, 1) := by decide +kernel
theorem dX12_expectOf_52 : decode cX12_expectOf 52 = .ok (.getfield 61, 3) := by decide +kernel
theorem dX12_expectOf_55 : decode cX12_expectOf 55 = .ok (.iconst 0, 1) := by decide +kernel
theorem dX12_expectOf_56 : decode cX12_expectOf 56 = .ok (.iaload, 1) := by decide +kernel
theorem dX12_expectOf_57 : decode cX12_expectOf 57 = .ok (.if_icmp .ge 56, 3) := by decide +kernel
theorem dX12_expectOf_60 : decode cX12_expectOf 60 = .ok (.aload_n 0, 1) := by decide +kernel
theorem dX12_expectOf_61 : decode cX12_expectOf 61 = .ok (.getfield 64, 3) := by decide +kernel
theorem dX12_expectOf_64 : decode cX12_expectOf 64 = .ok (.iload 6, 2) := by decide +kernel
theorem dX12_expectOf_66 : decode cX12_expectOf 66 = .ok (.iaload, 1) := by decide +kernel
theorem dX12_expectOf_67 : decode cX12_expectOf 67 = .ok (.iload_n 1, 1) := by decide +kernel
theorem dX12_expectOf_68 : decode cX12_expectOf 68 = .ok (.if_icmp .le 15, 3) := by decide +kernel
theorem dX12_expectOf_71 : decode cX12_expectOf 71 = .ok (.aload_n 0, 1) := by decide +kernel
theorem dX12_expectOf_72 : decode cX12_expectOf 72 = .ok (.getfield 64, 3) := by decide +kernel
theorem dX12_expectOf_75 : decode cX12_expectOf 75 = .ok (.iload 6, 2) := by decide +kernel
theorem dX12_expectOf_77 : decode cX12_expectOf 77 = .ok (.iaload, 1) := by decide +kernel
theorem dX12_expectOf_78 : decode cX12_expectOf 78 = .ok (.iload_n 1, 1) := by decide +kernel
theorem dX12_expectOf_79 : decode cX12_expectOf 79 = .ok (.isub, 1) := by decide +kernel
theorem dX12_expectOf_80 : decode cX12_expectOf 80 = .ok (.goto 4, 3) := by decide +kernel
theorem dX12_expectOf_83 : decode cX12_expectOf 83 = .ok (.iconst 0, 1) := by decide +kernel
theorem dX12_expectOf_84 : decode cX12_expectOf 84 = .ok (.istore 7, 2) := by decide +kernel
theorem dX12_expectOf_86 : decode cX12_expectOf 86 = .ok (.iload 5, 2) := by decide +kernel
theorem dX12_expectOf_88 : decode cX12_expectOf 88 = .ok (.aload_n 0, 1) := by decide +kernel
theorem dX12_expectOf_89 : decode cX12_expectOf 89 = .ok (.getfield 67, 3) := by decide +kernel
theorem dX12_expectOf_92 : decode cX12_expectOf 92 = .ok (.iload 6, 2) := by decide +kernel
theorem dX12_expectOf_94 : decode cX12_expectOf 94 = .ok (.iaload, 1) := by decide +kernel
theorem dX12_expectOf_95 : decode cX12_expectOf 95 = .ok (.iload 4, 2) := by decide +kernel
theorem dX12_expectOf_97 : decode cX12_expectOf 97 = .ok (.bipush 15, 2) := by decide +kernel
theorem dX12_expectOf_99 : decode cX12_expectOf 99 = .ok (.iload 7, 2) := by decide +kernel
theorem dX12_expectOf_101 : decode cX12_expectOf 101 = .ok (.imul, 1) := by decide +kernel
theorem dX12_expectOf_102 : decode cX12_expectOf 102 = .ok (.iadd, 1) := by decide +kernel
theorem dX12_expectOf_103 : decode cX12_expectOf 103 = .ok (.imul, 1) := by decide +kernel
theorem dX12_expectOf_104 : decode cX12_expectOf 104 = .ok (.iadd, 1) := by decide +kernel
theorem dX12_expectOf_105 : decode cX12_expectOf 105 = .ok (.istore 5, 2) := by decide +kernel
theorem dX12_expectOf_107 : decode cX12_expectOf 107 = .ok (.iinc 6 1, 3) := by decide +kernel
theorem dX12_expectOf_110 : decode cX12_expectOf 110 = .ok (.goto (-61), 3) := by decide +kernel
theorem dX12_expectOf_113 : decode cX12_expectOf 113 = .ok (.iload 5, 2) := by decide +kernel
theorem dX12_expectOf_115 : decode cX12_expectOf 115 = .ok (.ireturn, 1) := by decide +kernel
theorem dX12_expect_0 : decode cX12_expect 0 = .ok (.iload_n 1, 1) := by decide +kernel
theorem dX12_expect_1 : decode cX12_expect 1 = .ok (.i2l, 1) := by decide +kernel
theorem dX12_expect_2 : decode cX12_expect 2 = .ok (.lconst 0, 1) := by decide +kernel
theorem dX12_expect_3 : decode cX12_expect 3 = .ok (.ldc2_w 252, 3) := by decide +kernel
theorem dX12_expect_6 : decode cX12_expect 6 = .ok (.invokestatic 106, 3) := by decide +kernel
theorem dX12_expect_9 : decode cX12_expect 9 = .ok (.ifCond .ne 5, 3) := by decide +kernel
theorem dX12_expect_12 : decode cX12_expect 12 = .ok (.iconst (-1), 1) := by decide +kernel
theorem dX12_expect_13 : decode cX12_expect 13 = .ok (.ireturn, 1) := by decide +kernel
theorem dX12_expect_14 : decode cX12_expect 14 = .ok (.aload_n 0, 1) := by decide +kernel
theorem dX12_expect_15 : decode cX12_expect 15 = .ok (.getfield 61, 3) := by decide +kernel
theorem dX12_expect_18 : decode cX12_expect 18 = .ok (.iconst 0, 1) := by decide +kernel
theorem dX12_expect_19 : decode cX12_expect 19 = .ok (.iaload, 1) := by decide +kernel
theorem dX12_expect_20 : decode cX12_expect 20 = .ok (.ifCond .ne 8, 3) := by decide +kernel
theorem dX12_expect_23 : decode cX12_expect 23 = .ok (.bipush (-4), 2) := by decide +kernel
theorem dX12_expect_25 : decode cX12_expect 25 = .ok (.goto 8, 3) := by decide +kernel
theorem dX12_expect_28 : decode cX12_expect 28 = .ok (.aload_n 0, 1) := by decide +kernel
theorem dX12_expect_29 : decode cX12_expect 29 = .ok (.iload_n 1, 1) := by decide +kernel
theorem dX12_expect_30 : decode cX12_expect 30 = .ok (.invokevirtual 254, 3) := by decide +kernel
theorem dX12_expect_33 : decode cX12_expect 33 = .ok (.ireturn, 1) := by decide +kernel
theorem dX12_buy_0 : decode cX12_buy 0 = .ok (.iconst 0, 1) := by decide +kernel
theorem dX12_buy_1 : decode cX12_buy 1 = .ok (.istore_n 1, 1) := by decide +kernel
theorem dX12_buy_2 : decode cX12_buy 2 = .ok (.iconst 1, 1) := by decide +kernel
theorem dX12_buy_3 : decode cX12_buy 3 = .ok (.istore_n 2, 1) := by decide +kernel
theorem dX12_buy_4 : decode cX12_buy 4 = .ok (.iload_n 2, 1) := by decide +kernel
theorem dX12_buy_5 : decode cX12_buy 5 = .ok (.bipush 10, 2) := by decide +kernel
theorem dX12_buy_7 : decode cX12_buy 7 = .ok (.if_icmp .ge 28, 3) := by decide +kernel
theorem dX12_buy_10 : decode cX12_buy 10 = .ok (.aload_n 0, 1) := by decide +kernel
theorem dX12_buy_11 : decode cX12_buy 11 = .ok (.iload_n 2, 1) := by decide +kernel
theorem dX12_buy_12 : decode cX12_buy 12 = .ok (.invokevirtual 254, 3) := by decide +kernel
theorem dX12_buy_15 : decode cX12_buy 15 = .ok (.aload_n 0, 1) := by decide +kernel
theorem dX12_buy_16 : decode cX12_buy 16 = .ok (.iload_n 1, 1) := by decide +kernel
theorem dX12_buy_17 : decode cX12_buy 17 = .ok (.invokevirtual 254, 3) := by decide +kernel
theorem dX12_buy_20 : decode cX12_buy 20 = .ok (.if_icmp .ge 7, 3) := by decide +kernel
theorem dX12_buy_23 : decode cX12_buy 23 = .ok (.iload_n 2, 1) := by decide +kernel
theorem dX12_buy_24 : decode cX12_buy 24 = .ok (.goto 4, 3) := by decide +kernel
theorem dX12_buy_27 : decode cX12_buy 27 = .ok (.iload_n 1, 1) := by decide +kernel
theorem dX12_buy_28 : decode cX12_buy 28 = .ok (.istore_n 1, 1) := by decide +kernel
theorem dX12_buy_29 : decode cX12_buy 29 = .ok (.iinc 2 1, 3) := by decide +kernel
theorem dX12_buy_32 : decode cX12_buy 32 = .ok (.goto (-28), 3) := by decide +kernel
theorem dX12_buy_35 : decode cX12_buy 35 = .ok (.aload_n 0, 1) := by decide +kernel
theorem dX12_buy_36 : decode cX12_buy 36 = .ok (.getfield 61, 3) := by decide +kernel
theorem dX12_buy_39 : decode cX12_buy 39 = .ok (.iconst 0, 1) := by decide +kernel
theorem dX12_buy_40 : decode cX12_buy 40 = .ok (.iaload, 1) := by decide +kernel
theorem dX12_buy_41 : decode cX12_buy 41 = .ok (.ifCond .ne 8, 3) := by decide +kernel
theorem dX12_buy_44 : decode cX12_buy 44 = .ok (.bipush (-4), 2) := by decide +kernel
theorem dX12_buy_46 : decode cX12_buy 46 = .ok (.goto 4, 3) := by decide +kernel
theorem dX12_buy_49 : decode cX12_buy 49 = .ok (.iload_n 1, 1) := by decide +kernel
theorem dX12_buy_50 : decode cX12_buy 50 = .ok (.ireturn, 1) := by decide +kernel
theorem dX12_print_0 : decode cX12_print 0 = .ok (.iload_n 1, 1) := by decide +kernel
theorem dX12_print_1 : decode cX12_print 1 = .ok (.i2l, 1) := by decide +kernel
theorem dX12_print_2 : decode cX12_print 2 = .ok (.lconst 0, 1) := by decide +kernel
theorem dX12_print_3 : decode cX12_print 3 = .ok (.lconst 1, 1) := by decide +kernel
theorem dX12_print_4 : decode cX12_print 4 = .ok (.invokestatic 106, 3) := by decide +kernel
theorem dX12_print_7 : decode cX12_print 7 = .ok (.ifCond .ne 5, 3) := by decide +kernel
theorem dX12_print_10 : decode cX12_print 10 = .ok (.iconst (-1), 1) := by decide +kernel
theorem dX12_print_11 : decode cX12_print 11 = .ok (.ireturn, 1) := by decide +kernel
theorem dX12_print_12 : decode cX12_print 12 = .ok (.iconst 0, 1) := by decide +kernel
theorem dX12_print_13 : decode cX12_print 13 = .ok (.istore_n 2, 1) := by decide +kernel
theorem dX12_print_14 : decode cX12_print 14 = .ok (.iconst 0, 1) := by decide +kernel
theorem dX12_print_15 : decode cX12_print 15 = .ok (.istore_n 3, 1) := by decide +kernel
theorem dX12_print_16 : decode cX12_print 16 = .ok (.iload_n 3, 1) := by decide +kernel
theorem dX12_print_17 : decode cX12_print 17 = .ok (.aload_n 0, 1) := by decide +kernel
theorem dX12_print_18 : decode cX12_print 18 = .ok (.getfield 28, 3) := by decide +kernel
theorem dX12_print_21 : decode cX12_print 21 = .ok (.iconst 0, 1) := by decide +kernel
theorem dX12_print_22 : decode cX12_print 22 = .ok (.iaload, 1) := by decide +kernel
theorem dX12_print_23 : decode cX12_print 23 = .ok (.if_icmp .ge 84, 3) := by decide +kernel
theorem dX12_print_26 : decode cX12_print 26 = .ok (.aload_n 0, 1) := by decide +kernel
theorem dX12_print_27 : decode cX12_print 27 = .ok (.getfield 88, 3) := by decide +kernel
theorem dX12_print_30 : decode cX12_print 30 = .ok (.iconst 0, 1) := by decide +kernel
theorem dX12_print_31 : decode cX12_print 31 = .ok (.iaload, 1) := by decide +kernel
theorem dX12_print_32 : decode cX12_print 32 = .ok (.bipush 24, 2) := by decide +kernel
theorem dX12_print_34 : decode cX12_print 34 = .ok (.idiv, 1) := by decide +kernel
theorem dX12_print_35 : decode cX12_print 35 = .ok (.aload_n 0, 1) := by decide +kernel
theorem dX12_print_36 : decode cX12_print 36 = .ok (.getfield 43, 3) := by decide +kernel
theorem dX12_print_39 : decode cX12_print 39 = .ok (.iload_n 3, 1) := by decide +kernel
theorem dX12_print_40 : decode cX12_print 40 = .ok (.iaload, 1) := by decide +kernel
theorem dX12_print_41 : decode cX12_print 41 = .ok (.if_icmp .le 7, 3) := by decide +kernel
theorem dX12_print_44 : decode cX12_print 44 = .ok (.iconst 1, 1) := by decide +kernel
theorem dX12_print_45 : decode cX12_print 45 = .ok (.goto 4, 3) := by decide +kernel
theorem dX12_print_48 : decode cX12_print 48 = .ok (.iconst 0, 1) := by decide +kernel
theorem dX12_print_49 : decode cX12_print 49 = .ok (.istore 4, 2) := by decide +kernel
theorem dX12_print_51 : decode cX12_print 51 = .ok (.iload_n 2, 1) := by decide +kernel
theorem dX12_print_52 : decode cX12_print 52 = .ok (.aload_n 0, 1) := by decide +kernel
theorem dX12_print_53 : decode cX12_print 53 = .ok (.getfield 82, 3) := by decide +kernel
theorem dX12_print_56 : decode cX12_print 56 = .ok (.iload_n 3, 1) := by decide +kernel
theorem dX12_print_57 : decode cX12_print 57 = .ok (.iaload, 1) := by decide +kernel
theorem dX12_print_58 : decode cX12_print 58 = .ok (.ifCond .ne 40, 3) := by decide +kernel
theorem dX12_print_61 : decode cX12_print 61 = .ok (.iload_n 1, 1) := by decide +kernel
theorem dX12_print_62 : decode cX12_print 62 = .ok (.ifCond .ne 19, 3) := by decide +kernel
theorem dX12_print_65 : decode cX12_print 65 = .ok (.iload 4, 2) := by decide +kernel
theorem dX12_print_67 : decode cX12_print 67 = .ok (.ifCond .eq 31, 3) := by decide +kernel
theorem dX12_print_70 : decode cX12_print 70 = .ok (.aload_n 0, 1) := by decide +kernel
theorem dX12_print_71 : decode cX12_print 71 = .ok (.iload_n 3, 1) := by decide +kernel
theorem dX12_print_72 : decode cX12_print 72 = .ok (.invokevirtual 180, 3) := by decide +kernel
theorem dX12_print_75 : decode cX12_print 75 = .ok (.ifCond .ne 23, 3) := by decide +kernel
theorem dX12_print_78 : decode cX12_print 78 = .ok (.goto 16, 3) := by decide +kernel
theorem dX12_print_81 : decode cX12_print 81 = .ok (.iload 4, 2) := by decide +kernel
theorem dX12_print_83 : decode cX12_print 83 = .ok (.ifCond .ne 15, 3) := by decide +kernel
theorem dX12_print_86 : decode cX12_print 86 = .ok (.aload_n 0, 1) := by decide +kernel
theorem dX12_print_87 : decode cX12_print 87 = .ok (.iload_n 3, 1) := by decide +kernel
theorem dX12_print_88 : decode cX12_print 88 = .ok (.invokevirtual 180, 3) := by decide +kernel
theorem dX12_print_91 : decode cX12_print 91 = .ok (.ifCond .eq 7, 3) := by decide +kernel
theorem dX12_print_94 : decode cX12_print 94 = .ok (.iconst 1, 1) := by decide +kernel
theorem dX12_print_95 : decode cX12_print 95 = .ok (.goto 4, 3) := by decide +kernel
theorem dX12_print_98 : decode cX12_print 98 = .ok (.iconst 0, 1) := by decide +kernel
theorem dX12_print_99 : decode cX12_print 99 = .ok (.iadd, 1) := by decide +kernel
theorem dX12_print_100 : decode cX12_print 100 = .ok (.istore_n 2, 1) := by decide +kernel
theorem dX12_print_101 : decode cX12_print 101 = .ok (.iinc 3 1, 3) := by decide +kernel
theorem dX12_print_104 : decode cX12_print 104 = .ok (.goto (-88), 3) := by decide +kernel
theorem dX12_print_107 : decode cX12_print 107 = .ok (.iload_n 2, 1) := by decide +kernel
theorem dX12_print_108 : decode cX12_print 108 = .ok (.ireturn, 1) := by decide +kernel
theorem dX12_errorsAt_0 : decode cX12_errorsAt 0 = .ok (.iconst 0, 1) := by decide +kernel
theorem dX12_errorsAt_1 : decode cX12_errorsAt 1 = .ok (.istore_n 2, 1) := by decide +kernel
theorem dX12_errorsAt_2 : decode cX12_errorsAt 2 = .ok (.iconst 0, 1) := by decide +kernel
theorem dX12_errorsAt_3 : decode cX12_errorsAt 3 = .ok (.istore_n 3, 1) := by decide +kernel
theorem dX12_errorsAt_4 : decode cX12_errorsAt 4 = .ok (.iload_n 3, 1) := by decide +kernel
theorem dX12_errorsAt_5 : decode cX12_errorsAt 5 = .ok (.aload_n 0, 1) := by decide +kernel
theorem dX12_errorsAt_6 : decode cX12_errorsAt 6 = .ok (.getfield 28, 3) := by decide +kernel
theorem dX12_errorsAt_9 : decode cX12_errorsAt 9 = .ok (.iconst 0, 1) := by decide +kernel
theorem dX12_errorsAt_10 : decode cX12_errorsAt 10 = .ok (.iaload, 1) := by decide +kernel
theorem dX12_errorsAt_11 : decode cX12_errorsAt 11 = .ok (.if_icmp .ge 87, 3) := by decide +kernel
theorem dX12_errorsAt_14 : decode cX12_errorsAt 14 = .ok (.bipush 10, 2) := by decide +kernel
theorem dX12_errorsAt_16 : decode cX12_errorsAt 16 = .ok (.aload_n 0, 1) := by decide +kernel
theorem dX12_errorsAt_17 : decode cX12_errorsAt 17 = .ok (.getfield 79, 3) := by decide +kernel
theorem dX12_errorsAt_20 : decode cX12_errorsAt 20 = .ok (.iload_n 3, 1) := by decide +kernel
theorem dX12_errorsAt_21 : decode cX12_errorsAt 21 = .ok (.iaload, 1) := by decide +kernel
theorem dX12_errorsAt_22 : decode cX12_errorsAt 22 = .ok (.imul, 1) := by decide +kernel
theorem dX12_errorsAt_23 : decode cX12_errorsAt 23 = .ok (.iload_n 1, 1) := by decide +kernel
theorem dX12_errorsAt_24 : decode cX12_errorsAt 24 = .ok (.aload_n 0, 1) := by decide +kernel
theorem dX12_errorsAt_25 : decode cX12_errorsAt 25 = .ok (.iload_n 3, 1) := by decide +kernel
theorem dX12_errorsAt_26 : decode cX12_errorsAt 26 = .ok (.invokevirtual 170, 3) := by decide +kernel
theorem dX12_errorsAt_29 : decode cX12_errorsAt 29 = .ok (.imul, 1) := by decide +kernel
theorem dX12_errorsAt_30 : decode cX12_errorsAt 30 = .ok (.if_icmp .lt 7, 3) := by decide +kernel
theorem dX12_errorsAt_33 : decode cX12_errorsAt 33 = .ok (.iconst 1, 1) := by decide +kernel
theorem dX12_errorsAt_34 : decode cX12_errorsAt 34 = .ok (.goto 4, 3) := by decide +kernel
theorem dX12_errorsAt_37 : decode cX12_errorsAt 37 = .ok (.iconst 0, 1) := by decide +kernel
theorem dX12_errorsAt_38 : decode cX12_errorsAt 38 = .ok (.aload_n 0, 1) := by decide +kernel
theorem dX12_errorsAt_39 : decode cX12_errorsAt 39 = .ok (.iload_n 3, 1) := by decide +kernel
theorem dX12_errorsAt_40 : decode cX12_errorsAt 40 = .ok (.invokevirtual 180, 3) := by decide +kernel
theorem dX12_errorsAt_43 : decode cX12_errorsAt 43 = .ok (.if_icmp .ne 7, 3) := by decide +kernel
theorem dX12_errorsAt_46 : decode cX12_errorsAt 46 = .ok (.iconst 1, 1) := by decide +kernel
theorem dX12_errorsAt_47 : decode cX12_errorsAt 47 = .ok (.goto 4, 3) := by decide +kernel
theorem dX12_errorsAt_50 : decode cX12_errorsAt 50 = .ok (.iconst 0, 1) := by decide +kernel
theorem dX12_errorsAt_51 : decode cX12_errorsAt 51 = .ok (.istore 4, 2) := by decide +kernel
theorem dX12_errorsAt_53 : decode cX12_errorsAt 53 = .ok (.iload_n 2, 1) := by decide +kernel
theorem dX12_errorsAt_54 : decode cX12_errorsAt 54 = .ok (.aload_n 0, 1) := by decide +kernel
theorem dX12_errorsAt_55 : decode cX12_errorsAt 55 = .ok (.getfield 82, 3) := by decide +kernel
theorem dX12_errorsAt_58 : decode cX12_errorsAt 58 = .ok (.iload_n 3, 1) := by decide +kernel
theorem dX12_errorsAt_59 : decode cX12_errorsAt 59 = .ok (.iaload, 1) := by decide +kernel
theorem dX12_errorsAt_60 : decode cX12_errorsAt 60 = .ok (.ifCond .eq 7, 3) := by decide +kernel
theorem dX12_errorsAt_63 : decode cX12_errorsAt 63 = .ok (.iconst 0, 1) := by decide +kernel
theorem dX12_errorsAt_64 : decode cX12_errorsAt 64 = .ok (.goto 26, 3) := by decide +kernel
theorem dX12_errorsAt_67 : decode cX12_errorsAt 67 = .ok (.iload 4, 2) := by decide +kernel
theorem dX12_errorsAt_69 : decode cX12_errorsAt 69 = .ok (.ifCond .eq 12, 3) := by decide +kernel
theorem dX12_errorsAt_72 : decode cX12_errorsAt 72 = .ok (.aload_n 0, 1) := by decide +kernel
theorem dX12_errorsAt_73 : decode cX12_errorsAt 73 = .ok (.getfield 70, 3) := by decide +kernel
theorem dX12_errorsAt_76 : decode cX12_errorsAt 76 = .ok (.iconst 2, 1) := by decide +kernel
theorem dX12_errorsAt_77 : decode cX12_errorsAt 77 = .ok (.iaload, 1) := by decide +kernel
theorem dX12_errorsAt_78 : decode cX12_errorsAt 78 = .ok (.goto 12, 3) := by decide +kernel
theorem dX12_errorsAt_81 : decode cX12_errorsAt 81 = .ok (.bipush 10, 2) := by decide +kernel
theorem dX12_errorsAt_83 : decode cX12_errorsAt 83 = .ok (.aload_n 0, 1) := by decide +kernel
theorem dX12_errorsAt_84 : decode cX12_errorsAt 84 = .ok (.getfield 70, 3) := by decide +kernel
theorem dX12_errorsAt_87 : decode cX12_errorsAt 87 = .ok (.iconst 2, 1) := by decide +kernel
theorem dX12_errorsAt_88 : decode cX12_errorsAt 88 = .ok (.iaload, 1) := by decide +kernel
theorem dX12_errorsAt_89 : decode cX12_errorsAt 89 = .ok (.isub, 1) := by decide +kernel
theorem dX12_errorsAt_90 : decode cX12_errorsAt 90 = .ok (.iadd, 1) := by decide +kernel
theorem dX12_errorsAt_91 : decode cX12_errorsAt 91 = .ok (.istore_n 2, 1) := by decide +kernel
theorem dX12_errorsAt_92 : decode cX12_errorsAt 92 = .ok (.iinc 3 1, 3) := by decide +kernel
theorem dX12_errorsAt_95 : decode cX12_errorsAt 95 = .ok (.goto (-91), 3) := by decide +kernel
theorem dX12_errorsAt_98 : decode cX12_errorsAt 98 = .ok (.iload_n 2, 1) := by decide +kernel
theorem dX12_errorsAt_99 : decode cX12_errorsAt 99 = .ok (.ireturn, 1) := by decide +kernel
theorem dX12_smell_0 : decode cX12_smell 0 = .ok (.iload_n 1, 1) := by decide +kernel
theorem dX12_smell_1 : decode cX12_smell 1 = .ok (.i2l, 1) := by decide +kernel
theorem dX12_smell_2 : decode cX12_smell 2 = .ok (.lconst 0, 1) := by decide +kernel
theorem dX12_smell_3 : decode cX12_smell 3 = .ok (.ldc2_w 257, 3) := by decide +kernel
theorem dX12_smell_6 : decode cX12_smell 6 = .ok (.invokestatic 106, 3) := by decide +kernel
theorem dX12_smell_9 : decode cX12_smell 9 = .ok (.ifCond .eq 11, 3) := by decide +kernel
theorem dX12_smell_12 : decode cX12_smell 12 = .ok (.aload_n 0, 1) := by decide +kernel
theorem dX12_smell_13 : decode cX12_smell 13 = .ok (.iload_n 1, 1) := by decide +kernel
theorem dX12_smell_14 : decode cX12_smell 14 = .ok (.invokevirtual 259, 3) := by decide +kernel
theorem dX12_smell_17 : decode cX12_smell 17 = .ok (.goto 4, 3) := by decide +kernel
theorem dX12_smell_20 : decode cX12_smell 20 = .ok (.iconst (-1), 1) := by decide +kernel
theorem dX12_smell_21 : decode cX12_smell 21 = .ok (.ireturn, 1) := by decide +kernel
theorem dX12_line_0 : decode cX12_line 0 = .ok (.iconst 0, 1) := by decide +kernel
theorem dX12_line_1 : decode cX12_line 1 = .ok (.istore_n 1, 1) := by decide +kernel
theorem dX12_line_2 : decode cX12_line 2 = .ok (.iconst 1, 1) := by decide +kernel
theorem dX12_line_3 : decode cX12_line 3 = .ok (.istore_n 2, 1) := by decide +kernel
theorem dX12_line_4 : decode cX12_line 4 = .ok (.iload_n 2, 1) := by decide +kernel
theorem dX12_line_5 : decode cX12_line 5 = .ok (.bipush 21, 2) := by decide +kernel
theorem dX12_line_7 : decode cX12_line 7 = .ok (.if_icmp .ge 28, 3) := by decide +kernel
theorem dX12_line_10 : decode cX12_line 10 = .ok (.aload_n 0, 1) := by decide +kernel
theorem dX12_line_11 : decode cX12_line 11 = .ok (.iload_n 2, 1) := by decide +kernel
theorem dX12_line_12 : decode cX12_line 12 = .ok (.invokevirtual 259, 3) := by decide +kernel
theorem dX12_line_15 : decode cX12_line 15 = .ok (.aload_n 0, 1) := by decide +kernel
theorem dX12_line_16 : decode cX12_line 16 = .ok (.iload_n 1, 1) := by decide +kernel
theorem dX12_line_17 : decode cX12_line 17 = .ok (.invokevirtual 259, 3) := by decide +kernel
theorem dX12_line_20 : decode cX12_line 20 = .ok (.if_icmp .ge 7, 3) := by decide +kernel
theorem dX12_line_23 : decode cX12_line 23 = .ok (.iload_n 2, 1) := by decide +kernel
theorem dX12_line_24 : decode cX12_line 24 = .ok (.goto 4, 3) := by decide +kernel
theorem dX12_line_27 : decode cX12_line 27 = .ok (.iload_n 1, 1) := by decide +kernel
theorem dX12_line_28 : decode cX12_line 28 = .ok (.istore_n 1, 1) := by decide +kernel
theorem dX12_line_29 : decode cX12_line 29 = .ok (.iinc 2 1, 3) := by decide +kernel
theorem dX12_line_32 : decode cX12_line 32 = .ok (.goto (-28), 3) := by decide +kernel
theorem dX12_line_35 : decode cX12_line 35 = .ok (.aload_n 0, 1) := by decide +kernel
theorem dX12_line_36 : decode cX12_line 36 = .ok (.invokevirtual 246, 3) := by decide +kernel
theorem dX12_line_39 : decode cX12_line 39 = .ok (.ifCond .ne 8, 3) := by decide +kernel
theorem dX12_line_42 : decode cX12_line 42 = .ok (.bipush (-4), 2) := by decide +kernel
theorem dX12_line_44 : decode cX12_line 44 = .ok (.goto 4, 3) := by decide +kernel
theorem dX12_line_47 : decode cX12_line 47 = .ok (.iload_n 1, 1) := by decide +kernel
theorem dX12_line_48 : decode cX12_line 48 = .ok (.ireturn, 1) := by decide +kernel
theorem dX12_cut_0 : decode cX12_cut 0 = .ok (.iload_n 1, 1) := by decide +kernel
theorem dX12_cut_1 : decode cX12_cut 1 = .ok (.i2l, 1) := by decide +kernel
theorem dX12_cut_2 : decode cX12_cut 2 = .ok (.lconst 1, 1) := by decide +kernel
theorem dX12_cut_3 : decode cX12_cut 3 = .ok (.ldc2_w 123, 3) := by decide +kernel
theorem dX12_cut_6 : decode cX12_cut 6 = .ok (.invokestatic 106, 3) := by decide +kernel
theorem dX12_cut_9 : decode cX12_cut 9 = .ok (.ifCond .ne 5, 3) := by decide +kernel
theorem dX12_cut_12 : decode cX12_cut 12 = .ok (.iconst (-1), 1) := by decide +kernel
theorem dX12_cut_13 : decode cX12_cut 13 = .ok (.ireturn, 1) := by decide +kernel
theorem dX12_cut_14 : decode cX12_cut 14 = .ok (.aload_n 0, 1) := by decide +kernel
theorem dX12_cut_15 : decode cX12_cut 15 = .ok (.iconst 0, 1) := by decide +kernel
theorem dX12_cut_16 : decode cX12_cut 16 = .ok (.iconst 1, 1) := by decide +kernel
theorem dX12_cut_17 : decode cX12_cut 17 = .ok (.invokevirtual 213, 3) := by decide +kernel
theorem dX12_cut_20 : decode cX12_cut 20 = .ok (.iconst 0, 1) := by decide +kernel
theorem dX12_cut_21 : decode cX12_cut 21 = .ok (.istore_n 3, 1) := by decide +kernel
theorem dX12_cut_22 : decode cX12_cut 22 = .ok (.bipush 10, 2) := by decide +kernel
theorem dX12_cut_24 : decode cX12_cut 24 = .ok (.istore 4, 2) := by decide +kernel
theorem dX12_cut_26 : decode cX12_cut 26 = .ok (.iload 4, 2) := by decide +kernel
theorem dX12_cut_28 : decode cX12_cut 28 = .ok (.bipush 10, 2) := by decide +kernel
theorem dX12_cut_30 : decode cX12_cut 30 = .ok (.aload_n 0, 1) := by decide +kernel
theorem dX12_cut_31 : decode cX12_cut 31 = .ok (.getfield 28, 3) := by decide +kernel
theorem dX12_cut_34 : decode cX12_cut 34 = .ok (.iconst 0, 1) := by decide +kernel
theorem dX12_cut_35 : decode cX12_cut 35 = .ok (.iaload, 1) := by decide +kernel
theorem dX12_cut_36 : decode cX12_cut 36 = .ok (.iadd, 1) := by decide +kernel
theorem dX12_cut_37 : decode cX12_cut 37 = .ok (.if_icmp .ge 125, 3) := by decide +kernel
theorem dX12_cut_40 : decode cX12_cut 40 = .ok (.iconst 1, 1) := by decide +kernel
theorem dX12_cut_41 : decode cX12_cut 41 = .ok (.istore 5, 2) := by decide +kernel
theorem dX12_cut_43 : decode cX12_cut 43 = .ok (.iload 5, 2) := by decide +kernel
theorem dX12_cut_45 : decode cX12_cut 45 = .ok (.iload_n 1, 1) := by decide +kernel
theorem dX12_cut_46 : decode cX12_cut 46 = .ok (.if_icmp .gt 77, 3) := by decide +kernel
theorem dX12_cut_49 : decode cX12_cut 49 = .ok (.aload_n 0, 1) := by decide +kernel
theorem dX12_cut_50 : decode cX12_cut 50 = .ok (.getfield 16, 3) := by decide +kernel
theorem dX12_cut_53 : decode cX12_cut 53 = .ok (.aload_n 0, 1) := by decide +kernel
theorem dX12_cut_54 : decode cX12_cut 54 = .ok (.getfield 76, 3) := by decide +kernel
theorem dX12_cut_57 : decode cX12_cut 57 = .ok (.iload 4, 2) := by decide +kernel
theorem dX12_cut_59 : decode cX12_cut 59 = .ok (.iaload, 1) := by decide +kernel
theorem dX12_cut_60 : decode cX12_cut 60 = .ok (.iaload, 1) := by decide +kernel
theorem dX12_cut_61 : decode cX12_cut 61 = .ok (.iconst 3, 1) := by decide +kernel
theorem dX12_cut_62 : decode cX12_cut 62 = .ok (.iload 5, 2) := by decide +kernel
theorem dX12_cut_64 : decode cX12_cut 64 = .ok (.imul, 1) := by decide +kernel
theorem dX12_cut_65 : decode cX12_cut 65 = .ok (.iadd, 1) := by decide +kernel
theorem dX12_cut_66 : decode cX12_cut 66 = .ok (.iload_n 2, 1) := by decide +kernel
theorem dX12_cut_67 : decode cX12_cut 67 = .ok (.ifCond .eq 24, 3) := by decide +kernel
theorem dX12_cut_70 : decode cX12_cut 70 = .ok (.iload 5, 2) := by decide +kernel
theorem dX12_cut_72 : decode cX12_cut 72 = .ok (.iconst 1, 1) := by decide +kernel
theorem dX12_cut_73 : decode cX12_cut 73 = .ok (.if_icmp .ne 18, 3) := by decide +kernel
theorem dX12_cut_76 : decode cX12_cut 76 = .ok (.aload_n 0, 1) := by decide +kernel
theorem dX12_cut_77 : decode cX12_cut 77 = .ok (.getfield 19, 3) := by decide +kernel
theorem dX12_cut_80 : decode cX12_cut 80 = .ok (.aload_n 0, 1) := by decide +kernel
theorem dX12_cut_81 : decode cX12_cut 81 = .ok (.getfield 76, 3) := by decide +kernel
theorem dX12_cut_84 : decode cX12_cut 84 = .ok (.iload 4, 2) := by decide +kernel
theorem dX12_cut_86 : decode cX12_cut 86 = .ok (.iaload, 1) := by decide +kernel
theorem dX12_cut_87 : decode cX12_cut 87 = .ok (.iaload, 1) := by decide +kernel
theorem dX12_cut_88 : decode cX12_cut 88 = .ok (.goto 4, 3) := by decide +kernel
theorem dX12_cut_91 : decode cX12_cut 91 = .ok (.iconst 0, 1) := by decide +kernel
theorem dX12_cut_92 : decode cX12_cut 92 = .ok (.iadd, 1) := by decide +kernel
theorem dX12_cut_93 : decode cX12_cut 93 = .ok (.istore 6, 2) := by decide +kernel
theorem dX12_cut_95 : decode cX12_cut 95 = .ok (.aload_n 0, 1) := by decide +kernel
theorem dX12_cut_96 : decode cX12_cut 96 = .ok (.getfield 79, 3) := by decide +kernel
theorem dX12_cut_99 : decode cX12_cut 99 = .ok (.iload 4, 2) := by decide +kernel
theorem dX12_cut_101 : decode cX12_cut 101 = .ok (.dup2, 1) := by decide +kernel
theorem dX12_cut_102 : decode cX12_cut 102 = .ok (.iaload, 1) := by decide +kernel
theorem dX12_cut_103 : decode cX12_cut 103 = .ok (.aload_n 0, 1) := by decide +kernel
theorem dX12_cut_104 : decode cX12_cut 104 = .ok (.getfield 73, 3) := by decide +kernel
theorem dX12_cut_107 : decode cX12_cut 107 = .ok (.iload 4, 2) := by decide +kernel
theorem dX12_cut_109 : decode cX12_cut 109 = .ok (.iaload, 1) := by decide +kernel
theorem dX12_cut_110 : decode cX12_cut 110 = .ok (.iload 6, 2) := by decide +kernel
theorem dX12_cut_112 : decode cX12_cut 112 = .ok (.invokestatic 177, 3) := by decide +kernel
theorem dX12_cut_115 : decode cX12_cut 115 = .ok (.iadd, 1) := by decide +kernel
theorem dX12_cut_116 : decode cX12_cut 116 = .ok (.iastore, 1) := by decide +kernel
theorem dX12_cut_117 : decode cX12_cut 117 = .ok (.iinc 5 1, 3) := by decide +kernel
theorem dX12_cut_120 : decode cX12_cut 120 = .ok (.goto (-77), 3) := by decide +kernel
theorem dX12_cut_123 : decode cX12_cut 123 = .ok (.iload_n 3, 1) := by decide +kernel
theorem dX12_cut_124 : decode cX12_cut 124 = .ok (.aload_n 0, 1) := by decide +kernel
theorem dX12_cut_125 : decode cX12_cut 125 = .ok (.getfield 82, 3) := by decide +kernel
theorem dX12_cut_128 : decode cX12_cut 128 = .ok (.iload 4, 2) := by decide +kernel
theorem dX12_cut_130 : decode cX12_cut 130 = .ok (.iaload, 1) := by decide +kernel
theorem dX12_cut_131 : decode cX12_cut 131 = .ok (.ifCond .ne 22, 3) := by decide +kernel
theorem dX12_cut_134 : decode cX12_cut 134 = .ok (.aload_n 0, 1) := by decide +kernel
theorem dX12_cut_135 : decode cX12_cut 135 = .ok (.iload 4, 2) := by decide +kernel
theorem dX12_cut_137 : decode cX12_cut 137 = .ok (.invokevirtual 180, 3) := by decide +kernel
theorem dX12_cut_140 : decode cX12_cut 140 = .ok (.ifCond .eq 13, 3) := by decide +kernel
theorem dX12_cut_143 : decode cX12_cut 143 = .ok (.iconst 1, 1) := by decide +kernel
theorem dX12_cut_144 : decode cX12_cut 144 = .ok (.iload 4, 2) := by decide +kernel
theorem dX12_cut_146 : decode cX12_cut 146 = .ok (.bipush 10, 2) := by decide +kernel
theorem dX12_cut_148 : decode cX12_cut 148 = .ok (.isub, 1) := by decide +kernel
theorem dX12_cut_149 : decode cX12_cut 149 = .ok (.ishl, 1) := by decide +kernel
theorem dX12_cut_150 : decode cX12_cut 150 = .ok (.goto 4, 3) := by decide +kernel
theorem dX12_cut_153 : decode cX12_cut 153 = .ok (.iconst 0, 1) := by decide +kernel
theorem dX12_cut_154 : decode cX12_cut 154 = .ok (.ior, 1) := by decide +kernel
theorem dX12_cut_155 : decode cX12_cut 155 = .ok (.istore_n 3, 1) := by decide +kernel
theorem dX12_cut_156 : decode cX12_cut 156 = .ok (.iinc 4 1, 3) := by decide +kernel
theorem dX12_cut_159 : decode cX12_cut 159 = .ok (.goto (-133), 3) := by decide +kernel
theorem dX12_cut_162 : decode cX12_cut 162 = .ok (.iload_n 3, 1) := by decide +kernel
theorem dX12_cut_163 : decode cX12_cut 163 = .ok (.ireturn, 1) := by decide +kernel
theorem dX12_illOf_0 : decode cX12_illOf 0 = .ok (.aload_n 0, 1) := by decide +kernel
theorem dX12_illOf_1 : decode cX12_illOf 1 = .ok (.getfield 88, 3) := by decide +kernel
theorem dX12_illOf_4 : decode cX12_illOf 4 = .ok (.iconst 0, 1) := by decide +kernel
theorem dX12_illOf_5 : decode cX12_illOf 5 = .ok (.iaload, 1) := by decide +kernel
theorem dX12_illOf_6 : decode cX12_illOf 6 = .ok (.aload_n 0, 1) := by decide +kernel
theorem dX12_illOf_7 : decode cX12_illOf 7 = .ok (.getfield 85, 3) := by decide +kernel
theorem dX12_illOf_10 : decode cX12_illOf 10 = .ok (.iload_n 1, 1) := by decide +kernel
theorem dX12_illOf_11 : decode cX12_illOf 11 = .ok (.iaload, 1) := by decide +kernel
theorem dX12_illOf_12 : decode cX12_illOf 12 = .ok (.isub, 1) := by decide +kernel
theorem dX12_illOf_13 : decode cX12_illOf 13 = .ok (.istore_n 2, 1) := by decide +kernel
theorem dX12_illOf_14 : decode cX12_illOf 14 = .ok (.aload_n 0, 1) := by decide +kernel
theorem dX12_illOf_15 : decode cX12_illOf 15 = .ok (.getfield 82, 3) := by decide +kernel
theorem dX12_illOf_18 : decode cX12_illOf 18 = .ok (.iload_n 1, 1) := by decide +kernel
theorem dX12_illOf_19 : decode cX12_illOf 19 = .ok (.iaload, 1) := by decide +kernel
theorem dX12_illOf_20 : decode cX12_illOf 20 = .ok (.iconst 1, 1) := by decide +kernel
theorem dX12_illOf_21 : decode cX12_illOf 21 = .ok (.if_icmp .ne 17, 3) := by decide +kernel
theorem dX12_illOf_24 : decode cX12_illOf 24 = .ok (.iload_n 2, 1) := by decide +kernel
theorem dX12_illOf_25 : decode cX12_illOf 25 = .ok (.i2l, 1) := by decide +kernel
theorem dX12_illOf_26 : decode cX12_illOf 26 = .ok (.ldc2_w 186, 3) := by decide +kernel
theorem dX12_illOf_29 : decode cX12_illOf 29 = .ok (.ldc2_w 262, 3) := by decide +kernel
theorem dX12_illOf_32 : decode cX12_illOf 32 = .ok (.invokestatic 106, 3) := by decide +kernel
theorem dX12_illOf_35 : decode cX12_illOf 35 = .ok (.ifCond .ne 5, 3) := by decide +kernel
theorem dX12_illOf_38 : decode cX12_illOf 38 = .ok (.iconst 0, 1) := by decide +kernel
theorem dX12_illOf_39 : decode cX12_illOf 39 = .ok (.ireturn, 1) := by decide +kernel
theorem dX12_illOf_40 : decode cX12_illOf 40 = .ok (.bipush 10, 2) := by decide +kernel
theorem dX12_illOf_42 : decode cX12_illOf 42 = .ok (.aload_n 0, 1) := by decide +kernel
theorem dX12_illOf_43 : decode cX12_illOf 43 = .ok (.getfield 79, 3) := by decide +kernel
theorem dX12_illOf_46 : decode cX12_illOf 46 = .ok (.iload_n 1, 1) := by decide +kernel
theorem dX12_illOf_47 : decode cX12_illOf 47 = .ok (.iaload, 1) := by decide +kernel
theorem dX12_illOf_48 : decode cX12_illOf 48 = .ok (.imul, 1) := by decide +kernel
theorem dX12_illOf_49 : decode cX12_illOf 49 = .ok (.aload_n 0, 1) := by decide +kernel
theorem dX12_illOf_50 : decode cX12_illOf 50 = .ok (.iload_n 1, 1) := by decide +kernel
theorem dX12_illOf_51 : decode cX12_illOf 51 = .ok (.invokevirtual 170, 3) := by decide +kernel
theorem dX12_illOf_54 : decode cX12_illOf 54 = .ok (.idiv, 1) := by decide +kernel
theorem dX12_illOf_55 : decode cX12_illOf 55 = .ok (.istore_n 3, 1) := by decide +kernel
theorem dX12_illOf_56 : decode cX12_illOf 56 = .ok (.iload_n 2, 1) := by decide +kernel
theorem dX12_illOf_57 : decode cX12_illOf 57 = .ok (.bipush 24, 2) := by decide +kernel
theorem dX12_illOf_59 : decode cX12_illOf 59 = .ok (.if_icmp .gt 9, 3) := by decide +kernel
theorem dX12_illOf_62 : decode cX12_illOf 62 = .ok (.iconst 2, 1) := by decide +kernel
theorem dX12_illOf_63 : decode cX12_illOf 63 = .ok (.iload_n 3, 1) := by decide +kernel
theorem dX12_illOf_64 : decode cX12_illOf 64 = .ok (.imul, 1) := by decide +kernel
theorem dX12_illOf_65 : decode cX12_illOf 65 = .ok (.goto 4, 3) := by decide +kernel
theorem dX12_illOf_68 : decode cX12_illOf 68 = .ok (.iload_n 3, 1) := by decide +kernel
theorem dX12_illOf_69 : decode cX12_illOf 69 = .ok (.ireturn, 1) := by decide +kernel
theorem dX12_ill_0 : decode cX12_ill 0 = .ok (.aload_n 0, 1) := by decide +kernel
theorem dX12_ill_1 : decode cX12_ill 1 = .ok (.iload_n 1, 1) := by decide +kernel
theorem dX12_ill_2 : decode cX12_ill 2 = .ok (.invokevirtual 183, 3) := by decide +kernel
theorem dX12_ill_5 : decode cX12_ill 5 = .ok (.ifCond .eq 13, 3) := by decide +kernel
theorem dX12_ill_8 : decode cX12_ill 8 = .ok (.iload_n 2, 1) := by decide +kernel
theorem dX12_ill_9 : decode cX12_ill 9 = .ok (.i2l, 1) := by decide +kernel
theorem dX12_ill_10 : decode cX12_ill 10 = .ok (.lconst 0, 1) := by decide +kernel
theorem dX12_ill_11 : decode cX12_ill 11 = .ok (.lconst 1, 1) := by decide +kernel
theorem dX12_ill_12 : decode cX12_ill 12 = .ok (.invokestatic 106, 3) := by decide +kernel
theorem dX12_ill_15 : decode cX12_ill 15 = .ok (.ifCond .ne 5, 3) := by decide +kernel
theorem dX12_ill_18 : decode cX12_ill 18 = .ok (.iconst (-1), 1) := by decide +kernel
theorem dX12_ill_19 : decode cX12_ill 19 = .ok (.ireturn, 1) := by decide +kernel
theorem dX12_ill_20 : decode cX12_ill 20 = .ok (.iconst 0, 1) := by decide +kernel
theorem dX12_ill_21 : decode cX12_ill 21 = .ok (.istore_n 3, 1) := by decide +kernel
theorem dX12_ill_22 : decode cX12_ill 22 = .ok (.iconst 0, 1) := by decide +kernel
theorem dX12_ill_23 : decode cX12_ill 23 = .ok (.istore 4, 2) := by decide +kernel
theorem dX12_ill_25 : decode cX12_ill 25 = .ok (.iload 4, 2) := by decide +kernel
theorem dX12_ill_27 : decode cX12_ill 27 = .ok (.aload_n 0, 1) := by decide +kernel
theorem dX12_ill_28 : decode cX12_ill 28 = .ok (.getfield 28, 3) := by decide +kernel
theorem dX12_ill_31 : decode cX12_ill 31 = .ok (.iconst 0, 1) := by decide +kernel
theorem dX12_ill_32 : decode cX12_ill 32 = .ok (.iaload, 1) := by decide +kernel
theorem dX12_ill_33 : decode cX12_ill 33 = .ok (.if_icmp .ge 18, 3) := by decide +kernel
theorem dX12_ill_36 : decode cX12_ill 36 = .ok (.iload_n 3, 1) := by decide +kernel
theorem dX12_ill_37 : decode cX12_ill 37 = .ok (.aload_n 0, 1) := by decide +kernel
theorem dX12_ill_38 : decode cX12_ill 38 = .ok (.iload 4, 2) := by decide +kernel
theorem dX12_ill_40 : decode cX12_ill 40 = .ok (.invokevirtual 264, 3) := by decide +kernel
theorem dX12_ill_43 : decode cX12_ill 43 = .ok (.iadd, 1) := by decide +kernel
theorem dX12_ill_44 : decode cX12_ill 44 = .ok (.istore_n 3, 1) := by decide +kernel
theorem dX12_ill_45 : decode cX12_ill 45 = .ok (.iinc 4 1, 3) := by decide +kernel
theorem dX12_ill_48 : decode cX12_ill 48 = .ok (.goto (-23), 3) := by decide +kernel
theorem dX12_ill_51 : decode cX12_ill 51 = .ok (.iload_n 3, 1) := by decide +kernel
theorem dX12_ill_52 : decode cX12_ill 52 = .ok (.ifCond .ne 6, 3) := by decide +kernel
theorem dX12_ill_55 : decode cX12_ill 55 = .ok (.bipush (-4), 2) := by decide +kernel
theorem dX12_ill_57 : decode cX12_ill 57 = .ok (.ireturn, 1) := by decide +kernel
theorem dX12_ill_58 : decode cX12_ill 58 = .ok (.aload_n 0, 1) := by decide +kernel
theorem dX12_ill_59 : decode cX12_ill 59 = .ok (.iload_n 1, 1) := by decide +kernel
theorem dX12_ill_60 : decode cX12_ill 60 = .ok (.invokevirtual 264, 3) := by decide +kernel
theorem dX12_ill_63 : decode cX12_ill 63 = .ok (.istore 4, 2) := by decide +kernel
theorem dX12_ill_65 : decode cX12_ill 65 = .ok (.iload_n 3, 1) := by decide +kernel
theorem dX12_ill_66 : decode cX12_ill 66 = .ok (.istore 5, 2) := by decide +kernel
theorem dX12_ill_68 : decode cX12_ill 68 = .ok (.iload 5, 2) := by decide +kernel
theorem dX12_ill_70 : decode cX12_ill 70 = .ok (.ifCond .eq 21, 3) := by decide +kernel
theorem dX12_ill_73 : decode cX12_ill 73 = .ok (.iload 4, 2) := by decide +kernel
theorem dX12_ill_75 : decode cX12_ill 75 = .ok (.iload 5, 2) := by decide +kernel
theorem dX12_ill_77 : decode cX12_ill 77 = .ok (.irem, 1) := by decide +kernel
theorem dX12_ill_78 : decode cX12_ill 78 = .ok (.istore 6, 2) := by decide +kernel
theorem dX12_ill_80 : decode cX12_ill 80 = .ok (.iload 5, 2) := by decide +kernel
theorem dX12_ill_82 : decode cX12_ill 82 = .ok (.istore 4, 2) := by decide +kernel
theorem dX12_ill_84 : decode cX12_ill 84 = .ok (.iload 6, 2) := by decide +kernel
theorem dX12_ill_86 : decode cX12_ill 86 = .ok (.istore 5, 2) := by decide +kernel
theorem dX12_ill_88 : decode cX12_ill 88 = .ok (.goto (-20), 3) := by decide +kernel
theorem dX12_ill_91 : decode cX12_ill 91 = .ok (.iload_n 2, 1) := by decide +kernel
theorem dX12_ill_92 : decode cX12_ill 92 = .ok (.ifCond .ne 14, 3) := by decide +kernel
theorem dX12_ill_95 : decode cX12_ill 95 = .ok (.aload_n 0, 1) := by decide +kernel
theorem dX12_ill_96 : decode cX12_ill 96 = .ok (.iload_n 1, 1) := by decide +kernel
theorem dX12_ill_97 : decode cX12_ill 97 = .ok (.invokevirtual 264, 3) := by decide +kernel
theorem dX12_ill_100 : decode cX12_ill 100 = .ok (.iload 4, 2) := by decide +kernel
theorem dX12_ill_102 : decode cX12_ill 102 = .ok (.idiv, 1) := by decide +kernel
theorem dX12_ill_103 : decode cX12_ill 103 = .ok (.goto 7, 3) := by decide +kernel
theorem dX12_ill_106 : decode cX12_ill 106 = .ok (.iload_n 3, 1) := by decide +kernel
theorem dX12_ill_107 : decode cX12_ill 107 = .ok (.iload 4, 2) := by decide +kernel
theorem dX12_ill_109 : decode cX12_ill 109 = .ok (.idiv, 1) := by decide +kernel
theorem dX12_ill_110 : decode cX12_ill 110 = .ok (.ireturn, 1) := by decide +kernel
theorem dX12_span_0 : decode cX12_span 0 = .ok (.iload_n 1, 1) := by decide +kernel
theorem dX12_span_1 : decode cX12_span 1 = .ok (.i2l, 1) := by decide +kernel
theorem dX12_span_2 : decode cX12_span 2 = .ok (.lconst 0, 1) := by decide +kernel
theorem dX12_span_3 : decode cX12_span 3 = .ok (.ldc2_w 267, 3) := by decide +kernel
theorem dX12_span_6 : decode cX12_span 6 = .ok (.invokestatic 106, 3) := by decide +kernel
theorem dX12_span_9 : decode cX12_span 9 = .ok (.ifCond .eq 15, 3) := by decide +kernel
theorem dX12_span_12 : decode cX12_span 12 = .ok (.iload_n 2, 1) := by decide +kernel
theorem dX12_span_13 : decode cX12_span 13 = .ok (.i2l, 1) := by decide +kernel
theorem dX12_span_14 : decode cX12_span 14 = .ok (.lconst 1, 1) := by decide +kernel
theorem dX12_span_15 : decode cX12_span 15 = .ok (.ldc2_w 267, 3) := by decide +kernel
theorem dX12_span_18 : decode cX12_span 18 = .ok (.invokestatic 106, 3) := by decide +kernel
theorem dX12_span_21 : decode cX12_span 21 = .ok (.ifCond .ne 5, 3) := by decide +kernel
theorem dX12_span_24 : decode cX12_span 24 = .ok (.iconst (-1), 1) := by decide +kernel
theorem dX12_span_25 : decode cX12_span 25 = .ok (.ireturn, 1) := by decide +kernel
theorem dX12_span_26 : decode cX12_span 26 = .ok (.aload_n 0, 1) := by decide +kernel
theorem dX12_span_27 : decode cX12_span 27 = .ok (.getfield 160, 3) := by decide +kernel
theorem dX12_span_30 : decode cX12_span 30 = .ok (.bipush 8, 2) := by decide +kernel
theorem dX12_span_32 : decode cX12_span 32 = .ok (.if_icmp .ne 6, 3) := by decide +kernel
theorem dX12_span_35 : decode cX12_span 35 = .ok (.bipush (-3), 2) := by decide +kernel
theorem dX12_span_37 : decode cX12_span 37 = .ok (.ireturn, 1) := by decide +kernel
theorem dX12_span_38 : decode cX12_span 38 = .ok (.aload_n 0, 1) := by decide +kernel
theorem dX12_span_39 : decode cX12_span 39 = .ok (.getfield 91, 3) := by decide +kernel
theorem dX12_span_42 : decode cX12_span 42 = .ok (.iconst 2, 1) := by decide +kernel
theorem dX12_span_43 : decode cX12_span 43 = .ok (.aload_n 0, 1) := by decide +kernel
theorem dX12_span_44 : decode cX12_span 44 = .ok (.getfield 160, 3) := by decide +kernel
theorem dX12_span_47 : decode cX12_span 47 = .ok (.imul, 1) := by decide +kernel
theorem dX12_span_48 : decode cX12_span 48 = .ok (.iload_n 1, 1) := by decide +kernel
theorem dX12_span_49 : decode cX12_span 49 = .ok (.iastore, 1) := by decide +kernel
theorem dX12_span_50 : decode cX12_span 50 = .ok (.aload_n 0, 1) := by decide +kernel
theorem dX12_span_51 : decode cX12_span 51 = .ok (.getfield 91, 3) := by decide +kernel
theorem dX12_span_54 : decode cX12_span 54 = .ok (.iconst 2, 1) := by decide +kernel
theorem dX12_span_55 : decode cX12_span 55 = .ok (.aload_n 0, 1) := by decide +kernel
theorem dX12_span_56 : decode cX12_span 56 = .ok (.getfield 160, 3) := by decide +kernel
theorem dX12_span_59 : decode cX12_span 59 = .ok (.imul, 1) := by decide +kernel
theorem dX12_span_60 : decode cX12_span 60 = .ok (.iconst 1, 1) := by decide +kernel
theorem dX12_span_61 : decode cX12_span 61 = .ok (.iadd, 1) := by decide +kernel
theorem dX12_span_62 : decode cX12_span 62 = .ok (.iload_n 2, 1) := by decide +kernel
theorem dX12_span_63 : decode cX12_span 63 = .ok (.iastore, 1) := by decide +kernel
theorem dX12_span_64 : decode cX12_span 64 = .ok (.aload_n 0, 1) := by decide +kernel
theorem dX12_span_65 : decode cX12_span 65 = .ok (.dup, 1) := by decide +kernel
theorem dX12_span_66 : decode cX12_span 66 = .ok (.getfield 160, 3) := by decide +kernel
theorem dX12_span_69 : decode cX12_span 69 = .ok (.iconst 1, 1) := by decide +kernel
theorem dX12_span_70 : decode cX12_span 70 = .ok (.iadd, 1) := by decide +kernel
theorem dX12_span_71 : decode cX12_span 71 = .ok (.putfield 160, 3) := by decide +kernel
theorem dX12_span_74 : decode cX12_span 74 = .ok (.aload_n 0, 1) := by decide +kernel
theorem dX12_span_75 : decode cX12_span 75 = .ok (.getfield 160, 3) := by decide +kernel
theorem dX12_span_78 : decode cX12_span 78 = .ok (.ireturn, 1) := by decide +kernel
theorem dX12_noSpans_0 : decode cX12_noSpans 0 = .ok (.aload_n 0, 1) := by decide +kernel
theorem dX12_noSpans_1 : decode cX12_noSpans 1 = .ok (.getfield 160, 3) := by decide +kernel
theorem dX12_noSpans_4 : decode cX12_noSpans 4 = .ok (.istore_n 1, 1) := by decide +kernel
theorem dX12_noSpans_5 : decode cX12_noSpans 5 = .ok (.aload_n 0, 1) := by decide +kernel
theorem dX12_noSpans_6 : decode cX12_noSpans 6 = .ok (.iconst 0, 1) := by decide +kernel
theorem dX12_noSpans_7 : decode cX12_noSpans 7 = .ok (.putfield 160, 3) := by decide +kernel
theorem dX12_noSpans_10 : decode cX12_noSpans 10 = .ok (.iload_n 1, 1) := by decide +kernel
theorem dX12_noSpans_11 : decode cX12_noSpans 11 = .ok (.ireturn, 1) := by decide +kernel
theorem dX12_fitsOf_0 : decode cX12_fitsOf 0 = .ok (.iconst 0, 1) := by decide +kernel
theorem dX12_fitsOf_1 : decode cX12_fitsOf 1 = .ok (.istore_n 2, 1) := by decide +kernel
theorem dX12_fitsOf_2 : decode cX12_fitsOf 2 = .ok (.iconst 0, 1) := by decide +kernel
theorem dX12_fitsOf_3 : decode cX12_fitsOf 3 = .ok (.istore_n 3, 1) := by decide +kernel
theorem dX12_fitsOf_4 : decode cX12_fitsOf 4 = .ok (.iload_n 3, 1) := by decide +kernel
theorem dX12_fitsOf_5 : decode cX12_fitsOf 5 = .ok (.aload_n 0, 1) := by decide +kernel
theorem dX12_fitsOf_6 : decode cX12_fitsOf 6 = .ok (.getfield 160, 3) := by decide +kernel
theorem dX12_fitsOf_9 : decode cX12_fitsOf 9 = .ok (.if_icmp .ge 65, 3) := by decide +kernel
theorem dX12_fitsOf_12 : decode cX12_fitsOf 12 = .ok (.iload_n 1, 1) := by decide +kernel
theorem dX12_fitsOf_13 : decode cX12_fitsOf 13 = .ok (.aload_n 0, 1) := by decide +kernel
theorem dX12_fitsOf_14 : decode cX12_fitsOf 14 = .ok (.getfield 91, 3) := by decide +kernel
theorem dX12_fitsOf_17 : decode cX12_fitsOf 17 = .ok (.iconst 2, 1) := by decide +kernel
theorem dX12_fitsOf_18 : decode cX12_fitsOf 18 = .ok (.iload_n 3, 1) := by decide +kernel
theorem dX12_fitsOf_19 : decode cX12_fitsOf 19 = .ok (.imul, 1) := by decide +kernel
theorem dX12_fitsOf_20 : decode cX12_fitsOf 20 = .ok (.iaload, 1) := by decide +kernel
theorem dX12_fitsOf_21 : decode cX12_fitsOf 21 = .ok (.iadd, 1) := by decide +kernel
theorem dX12_fitsOf_22 : decode cX12_fitsOf 22 = .ok (.istore 4, 2) := by decide +kernel
theorem dX12_fitsOf_24 : decode cX12_fitsOf 24 = .ok (.aload_n 0, 1) := by decide +kernel
theorem dX12_fitsOf_25 : decode cX12_fitsOf 25 = .ok (.getfield 91, 3) := by decide +kernel
theorem dX12_fitsOf_28 : decode cX12_fitsOf 28 = .ok (.iconst 2, 1) := by decide +kernel
theorem dX12_fitsOf_29 : decode cX12_fitsOf 29 = .ok (.iload_n 3, 1) := by decide +kernel
theorem dX12_fitsOf_30 : decode cX12_fitsOf 30 = .ok (.imul, 1) := by decide +kernel
theorem dX12_fitsOf_31 : decode cX12_fitsOf 31 = .ok (.iconst 1, 1) := by decide +kernel
theorem dX12_fitsOf_32 : decode cX12_fitsOf 32 = .ok (.iadd, 1) := by decide +kernel
theorem dX12_fitsOf_33 : decode cX12_fitsOf 33 = .ok (.iaload, 1) := by decide +kernel
theorem dX12_fitsOf_34 : decode cX12_fitsOf 34 = .ok (.istore 5, 2) := by decide +kernel
theorem dX12_fitsOf_36 : decode cX12_fitsOf 36 = .ok (.iload_n 2, 1) := by decide +kernel
theorem dX12_fitsOf_37 : decode cX12_fitsOf 37 = .ok (.iload 4, 2) := by decide +kernel
theorem dX12_fitsOf_39 : decode cX12_fitsOf 39 = .ok (.iload 5, 2) := by decide +kernel
theorem dX12_fitsOf_41 : decode cX12_fitsOf 41 = .ok (.imul, 1) := by decide +kernel
theorem dX12_fitsOf_42 : decode cX12_fitsOf 42 = .ok (.sipush 2400, 3) := by decide +kernel
theorem dX12_fitsOf_45 : decode cX12_fitsOf 45 = .ok (.if_icmp .lt 20, 3) := by decide +kernel
theorem dX12_fitsOf_48 : decode cX12_fitsOf 48 = .ok (.iload 4, 2) := by decide +kernel
theorem dX12_fitsOf_50 : decode cX12_fitsOf 50 = .ok (.iload 5, 2) := by decide +kernel
theorem dX12_fitsOf_52 : decode cX12_fitsOf 52 = .ok (.iconst 1, 1) := by decide +kernel
theorem dX12_fitsOf_53 : decode cX12_fitsOf 53 = .ok (.isub, 1) := by decide +kernel
theorem dX12_fitsOf_54 : decode cX12_fitsOf 54 = .ok (.imul, 1) := by decide +kernel
theorem dX12_fitsOf_55 : decode cX12_fitsOf 55 = .ok (.sipush 2400, 3) := by decide +kernel
theorem dX12_fitsOf_58 : decode cX12_fitsOf 58 = .ok (.if_icmp .ge 7, 3) := by decide +kernel
theorem dX12_fitsOf_61 : decode cX12_fitsOf 61 = .ok (.iconst 1, 1) := by decide +kernel
theorem dX12_fitsOf_62 : decode cX12_fitsOf 62 = .ok (.goto 4, 3) := by decide +kernel
theorem dX12_fitsOf_65 : decode cX12_fitsOf 65 = .ok (.iconst 0, 1) := by decide +kernel
theorem dX12_fitsOf_66 : decode cX12_fitsOf 66 = .ok (.iadd, 1) := by decide +kernel
theorem dX12_fitsOf_67 : decode cX12_fitsOf 67 = .ok (.istore_n 2, 1) := by decide +kernel
theorem dX12_fitsOf_68 : decode cX12_fitsOf 68 = .ok (.iinc 3 1, 3) := by decide +kernel
theorem dX12_fitsOf_71 : decode cX12_fitsOf 71 = .ok (.goto (-67), 3) := by decide +kernel
theorem dX12_fitsOf_74 : decode cX12_fitsOf 74 = .ok (.iload_n 2, 1) := by decide +kernel
theorem dX12_fitsOf_75 : decode cX12_fitsOf 75 = .ok (.ireturn, 1) := by decide +kernel
theorem dX12_law_0 : decode cX12_law 0 = .ok (.iload_n 1, 1) := by decide +kernel
theorem dX12_law_1 : decode cX12_law 1 = .ok (.i2l, 1) := by decide +kernel
theorem dX12_law_2 : decode cX12_law 2 = .ok (.lconst 0, 1) := by decide +kernel
theorem dX12_law_3 : decode cX12_law 3 = .ok (.lconst 1, 1) := by decide +kernel
theorem dX12_law_4 : decode cX12_law 4 = .ok (.invokestatic 106, 3) := by decide +kernel
theorem dX12_law_7 : decode cX12_law 7 = .ok (.ifCond .ne 5, 3) := by decide +kernel
theorem dX12_law_10 : decode cX12_law 10 = .ok (.iconst (-1), 1) := by decide +kernel
theorem dX12_law_11 : decode cX12_law 11 = .ok (.ireturn, 1) := by decide +kernel
theorem dX12_law_12 : decode cX12_law 12 = .ok (.iconst 0, 1) := by decide +kernel
theorem dX12_law_13 : decode cX12_law 13 = .ok (.istore_n 2, 1) := by decide +kernel
theorem dX12_law_14 : decode cX12_law 14 = .ok (.iconst 1, 1) := by decide +kernel
theorem dX12_law_15 : decode cX12_law 15 = .ok (.istore_n 3, 1) := by decide +kernel
theorem dX12_law_16 : decode cX12_law 16 = .ok (.iload_n 3, 1) := by decide +kernel
theorem dX12_law_17 : decode cX12_law 17 = .ok (.bipush 41, 2) := by decide +kernel
theorem dX12_law_19 : decode cX12_law 19 = .ok (.if_icmp .ge 28, 3) := by decide +kernel
theorem dX12_law_22 : decode cX12_law 22 = .ok (.aload_n 0, 1) := by decide +kernel
theorem dX12_law_23 : decode cX12_law 23 = .ok (.iload_n 3, 1) := by decide +kernel
theorem dX12_law_24 : decode cX12_law 24 = .ok (.invokevirtual 269, 3) := by decide +kernel
theorem dX12_law_27 : decode cX12_law 27 = .ok (.aload_n 0, 1) := by decide +kernel
theorem dX12_law_28 : decode cX12_law 28 = .ok (.iload_n 2, 1) := by decide +kernel
theorem dX12_law_29 : decode cX12_law 29 = .ok (.invokevirtual 269, 3) := by decide +kernel
theorem dX12_law_32 : decode cX12_law 32 = .ok (.if_icmp .le 7, 3) := by decide +kernel
theorem dX12_law_35 : decode cX12_law 35 = .ok (.iload_n 3, 1) := by decide +kernel
theorem dX12_law_36 : decode cX12_law 36 = .ok (.goto 4, 3) := by decide +kernel
theorem dX12_law_39 : decode cX12_law 39 = .ok (.iload_n 2, 1) := by decide +kernel
theorem dX12_law_40 : decode cX12_law 40 = .ok (.istore_n 2, 1) := by decide +kernel
theorem dX12_law_41 : decode cX12_law 41 = .ok (.iinc 3 1, 3) := by decide +kernel
theorem dX12_law_44 : decode cX12_law 44 = .ok (.goto (-28), 3) := by decide +kernel
theorem dX12_law_47 : decode cX12_law 47 = .ok (.iload_n 1, 1) := by decide +kernel
theorem dX12_law_48 : decode cX12_law 48 = .ok (.ifCond .ne 11, 3) := by decide +kernel
theorem dX12_law_51 : decode cX12_law 51 = .ok (.aload_n 0, 1) := by decide +kernel
theorem dX12_law_52 : decode cX12_law 52 = .ok (.iload_n 2, 1) := by decide +kernel
theorem dX12_law_53 : decode cX12_law 53 = .ok (.invokevirtual 269, 3) := by decide +kernel
theorem dX12_law_56 : decode cX12_law 56 = .ok (.goto 4, 3) := by decide +kernel
theorem dX12_law_59 : decode cX12_law 59 = .ok (.iload_n 2, 1) := by decide +kernel
theorem dX12_law_60 : decode cX12_law 60 = .ok (.ireturn, 1) := by decide +kernel
theorem dX12_takenBy_0 : decode cX12_takenBy 0 = .ok (.bipush (-4), 2) := by decide +kernel
theorem dX12_takenBy_2 : decode cX12_takenBy 2 = .ok (.istore_n 2, 1) := by decide +kernel
theorem dX12_takenBy_3 : decode cX12_takenBy 3 = .ok (.bipush 10, 2) := by decide +kernel
theorem dX12_takenBy_5 : decode cX12_takenBy 5 = .ok (.istore_n 3, 1) := by decide +kernel
theorem dX12_takenBy_6 : decode cX12_takenBy 6 = .ok (.iload_n 3, 1) := by decide +kernel
theorem dX12_takenBy_7 : decode cX12_takenBy 7 = .ok (.bipush 10, 2) := by decide +kernel
theorem dX12_takenBy_9 : decode cX12_takenBy 9 = .ok (.aload_n 0, 1) := by decide +kernel
theorem dX12_takenBy_10 : decode cX12_takenBy 10 = .ok (.getfield 28, 3) := by decide +kernel
theorem dX12_takenBy_13 : decode cX12_takenBy 13 = .ok (.iconst 0, 1) := by decide +kernel
theorem dX12_takenBy_14 : decode cX12_takenBy 14 = .ok (.iaload, 1) := by decide +kernel
theorem dX12_takenBy_15 : decode cX12_takenBy 15 = .ok (.iadd, 1) := by decide +kernel
theorem dX12_takenBy_16 : decode cX12_takenBy 16 = .ok (.if_icmp .ge 41, 3) := by decide +kernel
theorem dX12_takenBy_19 : decode cX12_takenBy 19 = .ok (.aload_n 0, 1) := by decide +kernel
theorem dX12_takenBy_20 : decode cX12_takenBy 20 = .ok (.getfield 82, 3) := by decide +kernel
theorem dX12_takenBy_23 : decode cX12_takenBy 23 = .ok (.iload_n 3, 1) := by decide +kernel
theorem dX12_takenBy_24 : decode cX12_takenBy 24 = .ok (.iaload, 1) := by decide +kernel
theorem dX12_takenBy_25 : decode cX12_takenBy 25 = .ok (.ifCond .ne 26, 3) := by decide +kernel
theorem dX12_takenBy_28 : decode cX12_takenBy 28 = .ok (.iload_n 2, 1) := by decide +kernel
theorem dX12_takenBy_29 : decode cX12_takenBy 29 = .ok (.ifCond .lt 16, 3) := by decide +kernel
theorem dX12_takenBy_32 : decode cX12_takenBy 32 = .ok (.iload_n 1, 1) := by decide +kernel
theorem dX12_takenBy_33 : decode cX12_takenBy 33 = .ok (.ifCond .eq 12, 3) := by decide +kernel
theorem dX12_takenBy_36 : decode cX12_takenBy 36 = .ok (.aload_n 0, 1) := by decide +kernel
theorem dX12_takenBy_37 : decode cX12_takenBy 37 = .ok (.iload_n 3, 1) := by decide +kernel
theorem dX12_takenBy_38 : decode cX12_takenBy 38 = .ok (.iload_n 2, 1) := by decide +kernel
theorem dX12_takenBy_39 : decode cX12_takenBy 39 = .ok (.invokevirtual 220, 3) := by decide +kernel
theorem dX12_takenBy_42 : decode cX12_takenBy 42 = .ok (.ifCond .eq 7, 3) := by decide +kernel
theorem dX12_takenBy_45 : decode cX12_takenBy 45 = .ok (.iload_n 3, 1) := by decide +kernel
theorem dX12_takenBy_46 : decode cX12_takenBy 46 = .ok (.goto 4, 3) := by decide +kernel
theorem dX12_takenBy_49 : decode cX12_takenBy 49 = .ok (.iload_n 2, 1) := by decide +kernel
theorem dX12_takenBy_50 : decode cX12_takenBy 50 = .ok (.istore_n 2, 1) := by decide +kernel
theorem dX12_takenBy_51 : decode cX12_takenBy 51 = .ok (.iinc 3 1, 3) := by decide +kernel
theorem dX12_takenBy_54 : decode cX12_takenBy 54 = .ok (.goto (-48), 3) := by decide +kernel
theorem dX12_takenBy_57 : decode cX12_takenBy 57 = .ok (.iload_n 2, 1) := by decide +kernel
theorem dX12_takenBy_58 : decode cX12_takenBy 58 = .ok (.ireturn, 1) := by decide +kernel
theorem dX12_habit_0 : decode cX12_habit 0 = .ok (.iload_n 1, 1) := by decide +kernel
theorem dX12_habit_1 : decode cX12_habit 1 = .ok (.i2l, 1) := by decide +kernel
theorem dX12_habit_2 : decode cX12_habit 2 = .ok (.lconst 0, 1) := by decide +kernel
theorem dX12_habit_3 : decode cX12_habit 3 = .ok (.ldc2_w 272, 3) := by decide +kernel
theorem dX12_habit_6 : decode cX12_habit 6 = .ok (.invokestatic 106, 3) := by decide +kernel
theorem dX12_habit_9 : decode cX12_habit 9 = .ok (.ifCond .eq 25, 3) := by decide +kernel
theorem dX12_habit_12 : decode cX12_habit 12 = .ok (.iload_n 2, 1) := by decide +kernel
theorem dX12_habit_13 : decode cX12_habit 13 = .ok (.i2l, 1) := by decide +kernel
theorem dX12_habit_14 : decode cX12_habit 14 = .ok (.lconst 1, 1) := by decide +kernel
theorem dX12_habit_15 : decode cX12_habit 15 = .ok (.ldc2_w 257, 3) := by decide +kernel
theorem dX12_habit_18 : decode cX12_habit 18 = .ok (.invokestatic 106, 3) := by decide +kernel
theorem dX12_habit_21 : decode cX12_habit 21 = .ok (.ifCond .eq 13, 3) := by decide +kernel
theorem dX12_habit_24 : decode cX12_habit 24 = .ok (.iload_n 3, 1) := by decide +kernel
theorem dX12_habit_25 : decode cX12_habit 25 = .ok (.i2l, 1) := by decide +kernel
theorem dX12_habit_26 : decode cX12_habit 26 = .ok (.lconst 0, 1) := by decide +kernel
theorem dX12_habit_27 : decode cX12_habit 27 = .ok (.lconst 1, 1) := by decide +kernel
theorem dX12_habit_28 : decode cX12_habit 28 = .ok (.invokestatic 106, 3) := by decide +kernel
theorem dX12_habit_31 : decode cX12_habit 31 = .ok (.ifCond .ne 5, 3) := by decide +kernel
theorem dX12_habit_34 : decode cX12_habit 34 = .ok (.iconst (-1), 1) := by decide +kernel
theorem dX12_habit_35 : decode cX12_habit 35 = .ok (.ireturn, 1) := by decide +kernel
theorem dX12_habit_36 : decode cX12_habit 36 = .ok (.aload_n 0, 1) := by decide +kernel
theorem dX12_habit_37 : decode cX12_habit 37 = .ok (.iconst 0, 1) := by decide +kernel
theorem dX12_habit_38 : decode cX12_habit 38 = .ok (.iconst 1, 1) := by decide +kernel
theorem dX12_habit_39 : decode cX12_habit 39 = .ok (.invokevirtual 213, 3) := by decide +kernel
theorem dX12_habit_42 : decode cX12_habit 42 = .ok (.iconst 0, 1) := by decide +kernel
theorem dX12_habit_43 : decode cX12_habit 43 = .ok (.istore 4, 2) := by decide +kernel
theorem dX12_habit_45 : decode cX12_habit 45 = .ok (.iconst 0, 1) := by decide +kernel
theorem dX12_habit_46 : decode cX12_habit 46 = .ok (.istore 5, 2) := by decide +kernel
theorem dX12_habit_48 : decode cX12_habit 48 = .ok (.iload 5, 2) := by decide +kernel
theorem dX12_habit_50 : decode cX12_habit 50 = .ok (.iload_n 2, 1) := by decide +kernel
theorem dX12_habit_51 : decode cX12_habit 51 = .ok (.if_icmp .ge 112, 3) := by decide +kernel
theorem dX12_habit_54 : decode cX12_habit 54 = .ok (.iload 5, 2) := by decide +kernel
theorem dX12_habit_56 : decode cX12_habit 56 = .ok (.ifCond .le 8, 3) := by decide +kernel
theorem dX12_habit_59 : decode cX12_habit 59 = .ok (.aload_n 0, 1) := by decide +kernel
theorem dX12_habit_60 : decode cX12_habit 60 = .ok (.iconst 1, 1) := by decide +kernel
theorem dX12_habit_61 : decode cX12_habit 61 = .ok (.invokevirtual 196, 3) := by decide +kernel
theorem dX12_habit_64 : decode cX12_habit 64 = .ok (.aload_n 0, 1) := by decide +kernel
theorem dX12_habit_65 : decode cX12_habit 65 = .ok (.invokevirtual 226, 3) := by decide +kernel
theorem dX12_habit_68 : decode cX12_habit 68 = .ok (.ldc2_w 274, 3) := by decide +kernel
theorem dX12_habit_71 : decode cX12_habit 71 = .ok (.iload_n 1, 1) := by decide +kernel
theorem dX12_habit_72 : decode cX12_habit 72 = .ok (.i2l, 1) := by decide +kernel
theorem dX12_habit_73 : decode cX12_habit 73 = .ok (.lmul, 1) := by decide +kernel
theorem dX12_habit_74 : decode cX12_habit 74 = .ok (.ldc2_w 276, 3) := by decide +kernel
theorem dX12_habit_77 : decode cX12_habit 77 = .ok (.iload 5, 2) := by decide +kernel
theorem dX12_habit_79 : decode cX12_habit 79 = .ok (.i2l, 1) := by decide +kernel
theorem dX12_habit_80 : decode cX12_habit 80 = .ok (.lmul, 1) := by decide +kernel
theorem dX12_habit_81 : decode cX12_habit 81 = .ok (.ladd, 1) := by decide +kernel
theorem dX12_habit_82 : decode cX12_habit 82 = .ok (.lconst 1, 1) := by decide +kernel
theorem dX12_habit_83 : decode cX12_habit 83 = .ok (.ladd, 1) := by decide +kernel
theorem dX12_habit_84 : decode cX12_habit 84 = .ok (.lstore 6, 2) := by decide +kernel
theorem dX12_habit_86 : decode cX12_habit 86 = .ok (.lload 6, 2) := by decide +kernel
theorem dX12_habit_88 : decode cX12_habit 88 = .ok (.lload 6, 2) := by decide +kernel
theorem dX12_habit_90 : decode cX12_habit 90 = .ok (.lmul, 1) := by decide +kernel
theorem dX12_habit_91 : decode cX12_habit 91 = .ok (.ldc2_w 278, 3) := by decide +kernel
theorem dX12_habit_94 : decode cX12_habit 94 = .ok (.lrem, 1) := by decide +kernel
theorem dX12_habit_95 : decode cX12_habit 95 = .ok (.ldc2_w 127, 3) := by decide +kernel
theorem dX12_habit_98 : decode cX12_habit 98 = .ok (.lrem, 1) := by decide +kernel
theorem dX12_habit_99 : decode cX12_habit 99 = .ok (.lconst 0, 1) := by decide +kernel
theorem dX12_habit_100 : decode cX12_habit 100 = .ok (.lcmp, 1) := by decide +kernel
theorem dX12_habit_101 : decode cX12_habit 101 = .ok (.ifCond .eq 11, 3) := by decide +kernel
theorem dX12_habit_104 : decode cX12_habit 104 = .ok (.aload_n 0, 1) := by decide +kernel
theorem dX12_habit_105 : decode cX12_habit 105 = .ok (.iload_n 3, 1) := by decide +kernel
theorem dX12_habit_106 : decode cX12_habit 106 = .ok (.invokevirtual 280, 3) := by decide +kernel
theorem dX12_habit_109 : decode cX12_habit 109 = .ok (.goto 5, 3) := by decide +kernel
theorem dX12_habit_112 : decode cX12_habit 112 = .ok (.bipush (-4), 2) := by decide +kernel
theorem dX12_habit_114 : decode cX12_habit 114 = .ok (.istore 8, 2) := by decide +kernel
theorem dX12_habit_116 : decode cX12_habit 116 = .ok (.iload 8, 2) := by decide +kernel
theorem dX12_habit_118 : decode cX12_habit 118 = .ok (.ifCond .lt 39, 3) := by decide +kernel
theorem dX12_habit_121 : decode cX12_habit 121 = .ok (.iload 4, 2) := by decide +kernel
theorem dX12_habit_123 : decode cX12_habit 123 = .ok (.aload_n 0, 1) := by decide +kernel
theorem dX12_habit_124 : decode cX12_habit 124 = .ok (.iload 8, 2) := by decide +kernel
theorem dX12_habit_126 : decode cX12_habit 126 = .ok (.invokevirtual 180, 3) := by decide +kernel
theorem dX12_habit_129 : decode cX12_habit 129 = .ok (.ifCond .eq 16, 3) := by decide +kernel
theorem dX12_habit_132 : decode cX12_habit 132 = .ok (.aload_n 0, 1) := by decide +kernel
theorem dX12_habit_133 : decode cX12_habit 133 = .ok (.getfield 37, 3) := by decide +kernel
theorem dX12_habit_136 : decode cX12_habit 136 = .ok (.iload 8, 2) := by decide +kernel
theorem dX12_habit_138 : decode cX12_habit 138 = .ok (.bipush 10, 2) := by decide +kernel
theorem dX12_habit_140 : decode cX12_habit 140 = .ok (.isub, 1) := by decide +kernel
theorem dX12_habit_141 : decode cX12_habit 141 = .ok (.iaload, 1) := by decide +kernel
theorem dX12_habit_142 : decode cX12_habit 142 = .ok (.goto 4, 3) := by decide +kernel
theorem dX12_habit_145 : decode cX12_habit 145 = .ok (.iconst 0, 1) := by decide +kernel
theorem dX12_habit_146 : decode cX12_habit 146 = .ok (.iadd, 1) := by decide +kernel
theorem dX12_habit_147 : decode cX12_habit 147 = .ok (.istore 4, 2) := by decide +kernel
theorem dX12_habit_149 : decode cX12_habit 149 = .ok (.aload_n 0, 1) := by decide +kernel
theorem dX12_habit_150 : decode cX12_habit 150 = .ok (.getfield 82, 3) := by decide +kernel
theorem dX12_habit_153 : decode cX12_habit 153 = .ok (.iload 8, 2) := by decide +kernel
theorem dX12_habit_155 : decode cX12_habit 155 = .ok (.iconst 1, 1) := by decide +kernel
theorem dX12_habit_156 : decode cX12_habit 156 = .ok (.iastore, 1) := by decide +kernel
theorem dX12_habit_157 : decode cX12_habit 157 = .ok (.iinc 5 1, 3) := by decide +kernel
theorem dX12_habit_160 : decode cX12_habit 160 = .ok (.goto (-112), 3) := by decide +kernel
theorem dX12_habit_163 : decode cX12_habit 163 = .ok (.iload 4, 2) := by decide +kernel
theorem dX12_habit_165 : decode cX12_habit 165 = .ok (.aload_n 0, 1) := by decide +kernel
theorem dX12_habit_166 : decode cX12_habit 166 = .ok (.iconst 1, 1) := by decide +kernel
theorem dX12_habit_167 : decode cX12_habit 167 = .ok (.invokevirtual 207, 3) := by decide +kernel
theorem dX12_habit_170 : decode cX12_habit 170 = .ok (.iadd, 1) := by decide +kernel
theorem dX12_habit_171 : decode cX12_habit 171 = .ok (.ireturn, 1) := by decide +kernel
theorem dX12_keep_0 : decode cX12_keep 0 = .ok (.aload_n 0, 1) := by decide +kernel
theorem dX12_keep_1 : decode cX12_keep 1 = .ok (.getfield 157, 3) := by decide +kernel
theorem dX12_keep_4 : decode cX12_keep 4 = .ok (.iconst 2, 1) := by decide +kernel
theorem dX12_keep_5 : decode cX12_keep 5 = .ok (.if_icmp .ne 6, 3) := by decide +kernel
theorem dX12_keep_8 : decode cX12_keep 8 = .ok (.bipush (-3), 2) := by decide +kernel
theorem dX12_keep_10 : decode cX12_keep 10 = .ok (.ireturn, 1) := by decide +kernel
theorem dX12_keep_11 : decode cX12_keep 11 = .ok (.aload_n 0, 1) := by decide +kernel
theorem dX12_keep_12 : decode cX12_keep 12 = .ok (.dup, 1) := by decide +kernel
theorem dX12_keep_13 : decode cX12_keep 13 = .ok (.getfield 157, 3) := by decide +kernel
theorem dX12_keep_16 : decode cX12_keep 16 = .ok (.iconst 1, 1) := by decide +kernel
theorem dX12_keep_17 : decode cX12_keep 17 = .ok (.iadd, 1) := by decide +kernel
theorem dX12_keep_18 : decode cX12_keep 18 = .ok (.putfield 157, 3) := by decide +kernel
theorem dX12_keep_21 : decode cX12_keep 21 = .ok (.aload_n 0, 1) := by decide +kernel
theorem dX12_keep_22 : decode cX12_keep 22 = .ok (.iconst 0, 1) := by decide +kernel
theorem dX12_keep_23 : decode cX12_keep 23 = .ok (.iconst 1, 1) := by decide +kernel
theorem dX12_keep_24 : decode cX12_keep 24 = .ok (.aload_n 0, 1) := by decide +kernel
theorem dX12_keep_25 : decode cX12_keep 25 = .ok (.getfield 157, 3) := by decide +kernel
theorem dX12_keep_28 : decode cX12_keep 28 = .ok (.iadd, 1) := by decide +kernel
theorem dX12_keep_29 : decode cX12_keep 29 = .ok (.invokevirtual 213, 3) := by decide +kernel
theorem dX12_keep_32 : decode cX12_keep 32 = .ok (.aload_n 0, 1) := by decide +kernel
theorem dX12_keep_33 : decode cX12_keep 33 = .ok (.getfield 157, 3) := by decide +kernel
theorem dX12_keep_36 : decode cX12_keep 36 = .ok (.ireturn, 1) := by decide +kernel
theorem dX12_back_0 : decode cX12_back 0 = .ok (.aload_n 0, 1) := by decide +kernel
theorem dX12_back_1 : decode cX12_back 1 = .ok (.getfield 157, 3) := by decide +kernel
theorem dX12_back_4 : decode cX12_back 4 = .ok (.ifCond .ne 6, 3) := by decide +kernel
theorem dX12_back_7 : decode cX12_back 7 = .ok (.bipush (-2), 2) := by decide +kernel
theorem dX12_back_9 : decode cX12_back 9 = .ok (.ireturn, 1) := by decide +kernel
theorem dX12_back_10 : decode cX12_back 10 = .ok (.aload_n 0, 1) := by decide +kernel
theorem dX12_back_11 : decode cX12_back 11 = .ok (.iconst 1, 1) := by decide +kernel
theorem dX12_back_12 : decode cX12_back 12 = .ok (.aload_n 0, 1) := by decide +kernel
theorem dX12_back_13 : decode cX12_back 13 = .ok (.getfield 157, 3) := by decide +kernel
theorem dX12_back_16 : decode cX12_back 16 = .ok (.iadd, 1) := by decide +kernel
theorem dX12_back_17 : decode cX12_back 17 = .ok (.iconst 0, 1) := by decide +kernel
theorem dX12_back_18 : decode cX12_back 18 = .ok (.invokevirtual 213, 3) := by decide +kernel
theorem dX12_back_21 : decode cX12_back 21 = .ok (.aload_n 0, 1) := by decide +kernel
theorem dX12_back_22 : decode cX12_back 22 = .ok (.dup, 1) := by decide +kernel
theorem dX12_back_23 : decode cX12_back 23 = .ok (.getfield 157, 3) := by decide +kernel
theorem dX12_back_26 : decode cX12_back 26 = .ok (.iconst 1, 1) := by decide +kernel
theorem dX12_back_27 : decode cX12_back 27 = .ok (.isub, 1) := by decide +kernel
theorem dX12_back_28 : decode cX12_back 28 = .ok (.putfield 157, 3) := by decide +kernel
theorem dX12_back_31 : decode cX12_back 31 = .ok (.aload_n 0, 1) := by decide +kernel
theorem dX12_back_32 : decode cX12_back 32 = .ok (.getfield 157, 3) := by decide +kernel
theorem dX12_back_35 : decode cX12_back 35 = .ok (.ireturn, 1) := by decide +kernel
theorem dX12_count_0 : decode cX12_count 0 = .ok (.iload_n 1, 1) := by decide +kernel
theorem dX12_count_1 : decode cX12_count 1 = .ok (.tableswitch 117 0 9 #[55, 62, 69, 76, 83, 90, 95, 102, 107, 112], 55) := by decide +kernel
theorem dX12_count_56 : decode cX12_count 56 = .ok (.aload_n 0, 1) := by decide +kernel
theorem dX12_count_57 : decode cX12_count 57 = .ok (.getfield 28, 3) := by decide +kernel
theorem dX12_count_60 : decode cX12_count 60 = .ok (.iconst 0, 1) := by decide +kernel
theorem dX12_count_61 : decode cX12_count 61 = .ok (.iaload, 1) := by decide +kernel
theorem dX12_count_62 : decode cX12_count 62 = .ok (.ireturn, 1) := by decide +kernel
theorem dX12_count_63 : decode cX12_count 63 = .ok (.aload_n 0, 1) := by decide +kernel
theorem dX12_count_64 : decode cX12_count 64 = .ok (.getfield 13, 3) := by decide +kernel
theorem dX12_count_67 : decode cX12_count 67 = .ok (.iconst 0, 1) := by decide +kernel
theorem dX12_count_68 : decode cX12_count 68 = .ok (.iaload, 1) := by decide +kernel
theorem dX12_count_69 : decode cX12_count 69 = .ok (.ireturn, 1) := by decide +kernel
theorem dX12_count_70 : decode cX12_count 70 = .ok (.aload_n 0, 1) := by decide +kernel
theorem dX12_count_71 : decode cX12_count 71 = .ok (.getfield 49, 3) := by decide +kernel
theorem dX12_count_74 : decode cX12_count 74 = .ok (.iconst 0, 1) := by decide +kernel
theorem dX12_count_75 : decode cX12_count 75 = .ok (.iaload, 1) := by decide +kernel
theorem dX12_count_76 : decode cX12_count 76 = .ok (.ireturn, 1) := by decide +kernel
theorem dX12_count_77 : decode cX12_count 77 = .ok (.aload_n 0, 1) := by decide +kernel
theorem dX12_count_78 : decode cX12_count 78 = .ok (.getfield 55, 3) := by decide +kernel
theorem dX12_count_81 : decode cX12_count 81 = .ok (.iconst 0, 1) := by decide +kernel
theorem dX12_count_82 : decode cX12_count 82 = .ok (.iaload, 1) := by decide +kernel
theorem dX12_count_83 : decode cX12_count 83 = .ok (.ireturn, 1) := by decide +kernel
theorem dX12_count_84 : decode cX12_count 84 = .ok (.aload_n 0, 1) := by decide +kernel
theorem dX12_count_85 : decode cX12_count 85 = .ok (.getfield 61, 3) := by decide +kernel
theorem dX12_count_88 : decode cX12_count 88 = .ok (.iconst 0, 1) := by decide +kernel
theorem dX12_count_89 : decode cX12_count 89 = .ok (.iaload, 1) := by decide +kernel
theorem dX12_count_90 : decode cX12_count 90 = .ok (.ireturn, 1) := by decide +kernel
theorem dX12_count_91 : decode cX12_count 91 = .ok (.aload_n 0, 1) := by decide +kernel
theorem dX12_count_92 : decode cX12_count 92 = .ok (.getfield 160, 3) := by decide +kernel
theorem dX12_count_95 : decode cX12_count 95 = .ok (.ireturn, 1) := by decide +kernel
theorem dX12_count_96 : decode cX12_count 96 = .ok (.aload_n 0, 1) := by decide +kernel
theorem dX12_count_97 : decode cX12_count 97 = .ok (.getfield 88, 3) := by decide +kernel
theorem dX12_count_100 : decode cX12_count 100 = .ok (.iconst 0, 1) := by decide +kernel
theorem dX12_count_101 : decode cX12_count 101 = .ok (.iaload, 1) := by decide +kernel
theorem dX12_count_102 : decode cX12_count 102 = .ok (.ireturn, 1) := by decide +kernel
theorem dX12_count_103 : decode cX12_count 103 = .ok (.aload_n 0, 1) := by decide +kernel
theorem dX12_count_104 : decode cX12_count 104 = .ok (.invokevirtual 246, 3) := by decide +kernel
theorem dX12_count_107 : decode cX12_count 107 = .ok (.ireturn, 1) := by decide +kernel
theorem dX12_count_108 : decode cX12_count 108 = .ok (.aload_n 0, 1) := by decide +kernel
theorem dX12_count_109 : decode cX12_count 109 = .ok (.getfield 110, 3) := by decide +kernel
theorem dX12_count_112 : decode cX12_count 112 = .ok (.ireturn, 1) := by decide +kernel
theorem dX12_count_113 : decode cX12_count 113 = .ok (.aload_n 0, 1) := by decide +kernel
theorem dX12_count_114 : decode cX12_count 114 = .ok (.getfield 157, 3) := by decide +kernel
theorem dX12_count_117 : decode cX12_count 117 = .ok (.ireturn, 1) := by decide +kernel
theorem dX12_count_118 : decode cX12_count 118 = .ok (.iconst (-1), 1) := by decide +kernel
theorem dX12_count_119 : decode cX12_count 119 = .ok (.ireturn, 1) := by decide +kernel
theorem dJ6_bitCount_0f7a4_0 : decode cJ6_bitCount_0f7a4 0 = .ok (.iload_n 0, 1) := by decide +kernel
theorem dJ6_bitCount_0f7a4_1 : decode cJ6_bitCount_0f7a4 1 = .ok (.iload_n 0, 1) := by decide +kernel
theorem dJ6_bitCount_0f7a4_2 : decode cJ6_bitCount_0f7a4 2 = .ok (.iconst 1, 1) := by decide +kernel
theorem dJ6_bitCount_0f7a4_3 : decode cJ6_bitCount_0f7a4 3 = .ok (.iushr, 1) := by decide +kernel
theorem dJ6_bitCount_0f7a4_4 : decode cJ6_bitCount_0f7a4 4 = .ok (.ldc_w 265, 3) := by decide +kernel
theorem dJ6_bitCount_0f7a4_7 : decode cJ6_bitCount_0f7a4 7 = .ok (.iand, 1) := by decide +kernel
theorem dJ6_bitCount_0f7a4_8 : decode cJ6_bitCount_0f7a4 8 = .ok (.isub, 1) := by decide +kernel
theorem dJ6_bitCount_0f7a4_9 : decode cJ6_bitCount_0f7a4 9 = .ok (.istore_n 0, 1) := by decide +kernel
theorem dJ6_bitCount_0f7a4_10 : decode cJ6_bitCount_0f7a4 10 = .ok (.iload_n 0, 1) := by decide +kernel
theorem dJ6_bitCount_0f7a4_11 : decode cJ6_bitCount_0f7a4 11 = .ok (.ldc_w 266, 3) := by decide +kernel
theorem dJ6_bitCount_0f7a4_14 : decode cJ6_bitCount_0f7a4 14 = .ok (.iand, 1) := by decide +kernel
theorem dJ6_bitCount_0f7a4_15 : decode cJ6_bitCount_0f7a4 15 = .ok (.iload_n 0, 1) := by decide +kernel
theorem dJ6_bitCount_0f7a4_16 : decode cJ6_bitCount_0f7a4 16 = .ok (.iconst 2, 1) := by decide +kernel
theorem dJ6_bitCount_0f7a4_17 : decode cJ6_bitCount_0f7a4 17 = .ok (.iushr, 1) := by decide +kernel
theorem dJ6_bitCount_0f7a4_18 : decode cJ6_bitCount_0f7a4 18 = .ok (.ldc_w 266, 3) := by decide +kernel
theorem dJ6_bitCount_0f7a4_21 : decode cJ6_bitCount_0f7a4 21 = .ok (.iand, 1) := by decide +kernel
theorem dJ6_bitCount_0f7a4_22 : decode cJ6_bitCount_0f7a4 22 = .ok (.iadd, 1) := by decide +kernel
theorem dJ6_bitCount_0f7a4_23 : decode cJ6_bitCount_0f7a4 23 = .ok (.istore_n 0, 1) := by decide +kernel
theorem dJ6_bitCount_0f7a4_24 : decode cJ6_bitCount_0f7a4 24 = .ok (.iload_n 0, 1) := by decide +kernel
theorem dJ6_bitCount_0f7a4_25 : decode cJ6_bitCount_0f7a4 25 = .ok (.iload_n 0, 1) := by decide +kernel
theorem dJ6_bitCount_0f7a4_26 : decode cJ6_bitCount_0f7a4 26 = .ok (.iconst 4, 1) := by decide +kernel
theorem dJ6_bitCount_0f7a4_27 : decode cJ6_bitCount_0f7a4 27 = .ok (.iushr, 1) := by decide +kernel
theorem dJ6_bitCount_0f7a4_28 : decode cJ6_bitCount_0f7a4 28 = .ok (.iadd, 1) := by decide +kernel
theorem dJ6_bitCount_0f7a4_29 : decode cJ6_bitCount_0f7a4 29 = .ok (.ldc_w 267, 3) := by decide +kernel
theorem dJ6_bitCount_0f7a4_32 : decode cJ6_bitCount_0f7a4 32 = .ok (.iand, 1) := by decide +kernel
theorem dJ6_bitCount_0f7a4_33 : decode cJ6_bitCount_0f7a4 33 = .ok (.istore_n 0, 1) := by decide +kernel
theorem dJ6_bitCount_0f7a4_34 : decode cJ6_bitCount_0f7a4 34 = .ok (.iload_n 0, 1) := by decide +kernel
theorem dJ6_bitCount_0f7a4_35 : decode cJ6_bitCount_0f7a4 35 = .ok (.iload_n 0, 1) := by decide +kernel
theorem dJ6_bitCount_0f7a4_36 : decode cJ6_bitCount_0f7a4 36 = .ok (.bipush 8, 2) := by decide +kernel
theorem dJ6_bitCount_0f7a4_38 : decode cJ6_bitCount_0f7a4 38 = .ok (.iushr, 1) := by decide +kernel
theorem dJ6_bitCount_0f7a4_39 : decode cJ6_bitCount_0f7a4 39 = .ok (.iadd, 1) := by decide +kernel
theorem dJ6_bitCount_0f7a4_40 : decode cJ6_bitCount_0f7a4 40 = .ok (.istore_n 0, 1) := by decide +kernel
theorem dJ6_bitCount_0f7a4_41 : decode cJ6_bitCount_0f7a4 41 = .ok (.iload_n 0, 1) := by decide +kernel
theorem dJ6_bitCount_0f7a4_42 : decode cJ6_bitCount_0f7a4 42 = .ok (.iload_n 0, 1) := by decide +kernel
theorem dJ6_bitCount_0f7a4_43 : decode cJ6_bitCount_0f7a4 43 = .ok (.bipush 16, 2) := by decide +kernel
theorem dJ6_bitCount_0f7a4_45 : decode cJ6_bitCount_0f7a4 45 = .ok (.iushr, 1) := by decide +kernel
theorem dJ6_bitCount_0f7a4_46 : decode cJ6_bitCount_0f7a4 46 = .ok (.iadd, 1) := by decide +kernel
theorem dJ6_bitCount_0f7a4_47 : decode cJ6_bitCount_0f7a4 47 = .ok (.istore_n 0, 1) := by decide +kernel
theorem dJ6_bitCount_0f7a4_48 : decode cJ6_bitCount_0f7a4 48 = .ok (.iload_n 0, 1) := by decide +kernel
theorem dJ6_bitCount_0f7a4_49 : decode cJ6_bitCount_0f7a4 49 = .ok (.bipush 63, 2) := by decide +kernel
theorem dJ6_bitCount_0f7a4_51 : decode cJ6_bitCount_0f7a4 51 = .ok (.iand, 1) := by decide +kernel
theorem dJ6_bitCount_0f7a4_52 : decode cJ6_bitCount_0f7a4 52 = .ok (.ireturn, 1) := by decide +kernel
theorem dJ9_max_7cf53_0 : decode cJ9_max_7cf53 0 = .ok (.iload_n 0, 1) := by decide +kernel
theorem dJ9_max_7cf53_1 : decode cJ9_max_7cf53 1 = .ok (.iload_n 1, 1) := by decide +kernel
theorem dJ9_max_7cf53_2 : decode cJ9_max_7cf53 2 = .ok (.if_icmp .lt 7, 3) := by decide +kernel
theorem dJ9_max_7cf53_5 : decode cJ9_max_7cf53 5 = .ok (.iload_n 0, 1) := by decide +kernel
theorem dJ9_max_7cf53_6 : decode cJ9_max_7cf53 6 = .ok (.goto 4, 3) := by decide +kernel
theorem dJ9_max_7cf53_9 : decode cJ9_max_7cf53 9 = .ok (.iload_n 1, 1) := by decide +kernel
theorem dJ9_max_7cf53_10 : decode cJ9_max_7cf53 10 = .ok (.ireturn, 1) := by decide +kernel
theorem dJ9_min_7cf53_0 : decode cJ9_min_7cf53 0 = .ok (.iload_n 0, 1) := by decide +kernel
theorem dJ9_min_7cf53_1 : decode cJ9_min_7cf53 1 = .ok (.iload_n 1, 1) := by decide +kernel
theorem dJ9_min_7cf53_2 : decode cJ9_min_7cf53 2 = .ok (.if_icmp .gt 7, 3) := by decide +kernel
theorem dJ9_min_7cf53_5 : decode cJ9_min_7cf53 5 = .ok (.iload_n 0, 1) := by decide +kernel
theorem dJ9_min_7cf53_6 : decode cJ9_min_7cf53 6 = .ok (.goto 4, 3) := by decide +kernel
theorem dJ9_min_7cf53_9 : decode cJ9_min_7cf53 9 = .ok (.iload_n 1, 1) := by decide +kernel
theorem dJ9_min_7cf53_10 : decode cJ9_min_7cf53 10 = .ok (.ireturn, 1) := by decide +kernel
theorem dL_law_0 : decode cL_law 0 = .ok (.new 7, 3) := by decide +kernel
theorem dL_law_3 : decode cL_law 3 = .ok (.dup, 1) := by decide +kernel
theorem dL_law_4 : decode cL_law 4 = .ok (.invokespecial 9, 3) := by decide +kernel
theorem dL_law_7 : decode cL_law 7 = .ok (.astore_n 1, 1) := by decide +kernel
theorem dL_law_8 : decode cL_law 8 = .ok (.new 10, 3) := by decide +kernel
theorem dL_law_11 : decode cL_law 11 = .ok (.dup, 1) := by decide +kernel
theorem dL_law_12 : decode cL_law 12 = .ok (.invokespecial 12, 3) := by decide +kernel
theorem dL_law_15 : decode cL_law 15 = .ok (.astore_n 2, 1) := by decide +kernel
theorem dL_law_16 : decode cL_law 16 = .ok (.iconst 0, 1) := by decide +kernel
theorem dL_law_17 : decode cL_law 17 = .ok (.istore_n 3, 1) := by decide +kernel
theorem dL_law_18 : decode cL_law 18 = .ok (.iload_n 3, 1) := by decide +kernel
theorem dL_law_19 : decode cL_law 19 = .ok (.aload_n 0, 1) := by decide +kernel
theorem dL_law_20 : decode cL_law 20 = .ok (.arraylength, 1) := by decide +kernel
theorem dL_law_21 : decode cL_law 21 = .ok (.iconst 4, 1) := by decide +kernel
theorem dL_law_22 : decode cL_law 22 = .ok (.isub, 1) := by decide +kernel
theorem dL_law_23 : decode cL_law 23 = .ok (.if_icmp .gt 957, 3) := by decide +kernel
theorem dL_law_26 : decode cL_law 26 = .ok (.aload_n 0, 1) := by decide +kernel
theorem dL_law_27 : decode cL_law 27 = .ok (.iload_n 3, 1) := by decide +kernel
theorem dL_law_28 : decode cL_law 28 = .ok (.iaload, 1) := by decide +kernel
theorem dL_law_29 : decode cL_law 29 = .ok (.bipush 31, 2) := by decide +kernel
theorem dL_law_31 : decode cL_law 31 = .ok (.iand, 1) := by decide +kernel
theorem dL_law_32 : decode cL_law 32 = .ok (.tableswitch 942 0 29 #[136, 199, 212, 225, 238, 271, 304, 327, 360, 393, 416, 439, 472, 495, 528, 561, 604, 627, 640, 663, 686, 699, 748, 781, 814, 827, 850, 893, 906, 919], 136) := by decide +kernel
theorem dL_law_168 : decode cL_law 168 = .ok (.aload_n 1, 1) := by decide +kernel
theorem dL_law_169 : decode cL_law 169 = .ok (.aload_n 0, 1) := by decide +kernel
theorem dL_law_170 : decode cL_law 170 = .ok (.iload_n 3, 1) := by decide +kernel
theorem dL_law_171 : decode cL_law 171 = .ok (.iconst 1, 1) := by decide +kernel
theorem dL_law_172 : decode cL_law 172 = .ok (.iadd, 1) := by decide +kernel
theorem dL_law_173 : decode cL_law 173 = .ok (.iaload, 1) := by decide +kernel
theorem dL_law_174 : decode cL_law 174 = .ok (.aload_n 0, 1) := by decide +kernel
theorem dL_law_175 : decode cL_law 175 = .ok (.iload_n 3, 1) := by decide +kernel
theorem dL_law_176 : decode cL_law 176 = .ok (.iconst 2, 1) := by decide +kernel
theorem dL_law_177 : decode cL_law 177 = .ok (.iadd, 1) := by decide +kernel
theorem dL_law_178 : decode cL_law 178 = .ok (.iaload, 1) := by decide +kernel
theorem dL_law_179 : decode cL_law 179 = .ok (.i2l, 1) := by decide +kernel
theorem dL_law_180 : decode cL_law 180 = .ok (.bipush 32, 2) := by decide +kernel
theorem dL_law_182 : decode cL_law 182 = .ok (.lshl, 1) := by decide +kernel
theorem dL_law_183 : decode cL_law 183 = .ok (.aload_n 0, 1) := by decide +kernel
theorem dL_law_184 : decode cL_law 184 = .ok (.iload_n 3, 1) := by decide +kernel
theorem dL_law_185 : decode cL_law 185 = .ok (.iconst 3, 1) := by decide +kernel
theorem dL_law_186 : decode cL_law 186 = .ok (.iadd, 1) := by decide +kernel
theorem dL_law_187 : decode cL_law 187 = .ok (.iaload, 1) := by decide +kernel
theorem dL_law_188 : decode cL_law 188 = .ok (.i2l, 1) := by decide +kernel
theorem dL_law_189 : decode cL_law 189 = .ok (.ldc2_w 13, 3) := by decide +kernel
theorem dL_law_192 : decode cL_law 192 = .ok (.land, 1) := by decide +kernel
theorem dL_law_193 : decode cL_law 193 = .ok (.lor, 1) := by decide +kernel
theorem dL_law_194 : decode cL_law 194 = .ok (.invokevirtual 15, 3) := by decide +kernel
theorem dL_law_197 : decode cL_law 197 = .ok (.aload_n 2, 1) := by decide +kernel
theorem dL_law_198 : decode cL_law 198 = .ok (.aload_n 0, 1) := by decide +kernel
theorem dL_law_199 : decode cL_law 199 = .ok (.iload_n 3, 1) := by decide +kernel
theorem dL_law_200 : decode cL_law 200 = .ok (.iconst 1, 1) := by decide +kernel
theorem dL_law_201 : decode cL_law 201 = .ok (.iadd, 1) := by decide +kernel
theorem dL_law_202 : decode cL_law 202 = .ok (.iaload, 1) := by decide +kernel
theorem dL_law_203 : decode cL_law 203 = .ok (.aload_n 0, 1) := by decide +kernel
theorem dL_law_204 : decode cL_law 204 = .ok (.iload_n 3, 1) := by decide +kernel
theorem dL_law_205 : decode cL_law 205 = .ok (.iconst 2, 1) := by decide +kernel
theorem dL_law_206 : decode cL_law 206 = .ok (.iadd, 1) := by decide +kernel
theorem dL_law_207 : decode cL_law 207 = .ok (.iaload, 1) := by decide +kernel
theorem dL_law_208 : decode cL_law 208 = .ok (.i2l, 1) := by decide +kernel
theorem dL_law_209 : decode cL_law 209 = .ok (.bipush 32, 2) := by decide +kernel
theorem dL_law_211 : decode cL_law 211 = .ok (.lshl, 1) := by decide +kernel
theorem dL_law_212 : decode cL_law 212 = .ok (.aload_n 0, 1) := by decide +kernel
theorem dL_law_213 : decode cL_law 213 = .ok (.iload_n 3, 1) := by decide +kernel
theorem dL_law_214 : decode cL_law 214 = .ok (.iconst 3, 1) := by decide +kernel
theorem dL_law_215 : decode cL_law 215 = .ok (.iadd, 1) := by decide +kernel
theorem dL_law_216 : decode cL_law 216 = .ok (.iaload, 1) := by decide +kernel
theorem dL_law_217 : decode cL_law 217 = .ok (.i2l, 1) := by decide +kernel
theorem dL_law_218 : decode cL_law 218 = .ok (.ldc2_w 13, 3) := by decide +kernel
theorem dL_law_221 : decode cL_law 221 = .ok (.land, 1) := by decide +kernel
theorem dL_law_222 : decode cL_law 222 = .ok (.lor, 1) := by decide +kernel
theorem dL_law_223 : decode cL_law 223 = .ok (.invokevirtual 19, 3) := by decide +kernel
theorem dL_law_226 : decode cL_law 226 = .ok (.if_icmp .eq 748, 3) := by decide +kernel
theorem dL_law_229 : decode cL_law 229 = .ok (.iconst 0, 1) := by decide +kernel
theorem dL_law_230 : decode cL_law 230 = .ok (.ireturn, 1) := by decide +kernel
theorem dL_law_231 : decode cL_law 231 = .ok (.aload_n 1, 1) := by decide +kernel
theorem dL_law_232 : decode cL_law 232 = .ok (.invokevirtual 20, 3) := by decide +kernel
theorem dL_law_235 : decode cL_law 235 = .ok (.aload_n 2, 1) := by decide +kernel
theorem dL_law_236 : decode cL_law 236 = .ok (.invokevirtual 24, 3) := by decide +kernel
theorem dL_law_239 : decode cL_law 239 = .ok (.if_icmp .eq 735, 3) := by decide +kernel
theorem dL_law_242 : decode cL_law 242 = .ok (.iconst 0, 1) := by decide +kernel
theorem dL_law_243 : decode cL_law 243 = .ok (.ireturn, 1) := by decide +kernel
theorem dL_law_244 : decode cL_law 244 = .ok (.aload_n 1, 1) := by decide +kernel
theorem dL_law_245 : decode cL_law 245 = .ok (.invokevirtual 25, 3) := by decide +kernel
theorem dL_law_248 : decode cL_law 248 = .ok (.aload_n 2, 1) := by decide +kernel
theorem dL_law_249 : decode cL_law 249 = .ok (.invokevirtual 28, 3) := by decide +kernel
theorem dL_law_252 : decode cL_law 252 = .ok (.if_icmp .eq 722, 3) := by decide +kernel
theorem dL_law_255 : decode cL_law 255 = .ok (.iconst 0, 1) := by decide +kernel
theorem dL_law_256 : decode cL_law 256 = .ok (.ireturn, 1) := by decide +kernel
theorem dL_law_257 : decode cL_law 257 = .ok (.aload_n 1, 1) := by decide +kernel
theorem dL_law_258 : decode cL_law 258 = .ok (.invokevirtual 29, 3) := by decide +kernel
theorem dL_law_261 : decode cL_law 261 = .ok (.aload_n 2, 1) := by decide +kernel
theorem dL_law_262 : decode cL_law 262 = .ok (.invokevirtual 32, 3) := by decide +kernel
theorem dL_law_265 : decode cL_law 265 = .ok (.if_icmp .eq 709, 3) := by decide +kernel
theorem dL_law_268 : decode cL_law 268 = .ok (.iconst 0, 1) := by decide +kernel
theorem dL_law_269 : decode cL_law 269 = .ok (.ireturn, 1) := by decide +kernel
theorem dL_law_270 : decode cL_law 270 = .ok (.aload_n 1, 1) := by decide +kernel
theorem dL_law_271 : decode cL_law 271 = .ok (.aload_n 0, 1) := by decide +kernel
theorem dL_law_272 : decode cL_law 272 = .ok (.iload_n 3, 1) := by decide +kernel
theorem dL_law_273 : decode cL_law 273 = .ok (.iconst 1, 1) := by decide +kernel
theorem dL_law_274 : decode cL_law 274 = .ok (.iadd, 1) := by decide +kernel
theorem dL_law_275 : decode cL_law 275 = .ok (.iaload, 1) := by decide +kernel
theorem dL_law_276 : decode cL_law 276 = .ok (.aload_n 0, 1) := by decide +kernel
theorem dL_law_277 : decode cL_law 277 = .ok (.iload_n 3, 1) := by decide +kernel
theorem dL_law_278 : decode cL_law 278 = .ok (.iconst 2, 1) := by decide +kernel
theorem dL_law_279 : decode cL_law 279 = .ok (.iadd, 1) := by decide +kernel
theorem dL_law_280 : decode cL_law 280 = .ok (.iaload, 1) := by decide +kernel
theorem dL_law_281 : decode cL_law 281 = .ok (.invokevirtual 33, 3) := by decide +kernel
theorem dL_law_284 : decode cL_law 284 = .ok (.aload_n 2, 1) := by decide +kernel
theorem dL_law_285 : decode cL_law 285 = .ok (.aload_n 0, 1) := by decide +kernel
theorem dL_law_286 : decode cL_law 286 = .ok (.iload_n 3, 1) := by decide +kernel
theorem dL_law_287 : decode cL_law 287 = .ok (.iconst 1, 1) := by decide +kernel
theorem dL_law_288 : decode cL_law 288 = .ok (.iadd, 1) := by decide +kernel
theorem dL_law_289 : decode cL_law 289 = .ok (.iaload, 1) := by decide +kernel
theorem dL_law_290 : decode cL_law 290 = .ok (.aload_n 0, 1) := by decide +kernel
theorem dL_law_291 : decode cL_law 291 = .ok (.iload_n 3, 1) := by decide +kernel
theorem dL_law_292 : decode cL_law 292 = .ok (.iconst 2, 1) := by decide +kernel
theorem dL_law_293 : decode cL_law 293 = .ok (.iadd, 1) := by decide +kernel
theorem dL_law_294 : decode cL_law 294 = .ok (.iaload, 1) := by decide +kernel
theorem dL_law_295 : decode cL_law 295 = .ok (.invokevirtual 37, 3) := by decide +kernel
theorem dL_law_298 : decode cL_law 298 = .ok (.if_icmp .eq 676, 3) := by decide +kernel
theorem dL_law_301 : decode cL_law 301 = .ok (.iconst 0, 1) := by decide +kernel
theorem dL_law_302 : decode cL_law 302 = .ok (.ireturn, 1) := by decide +kernel
theorem dL_law_303 : decode cL_law 303 = .ok (.aload_n 1, 1) := by decide +kernel
theorem dL_law_304 : decode cL_law 304 = .ok (.aload_n 0, 1) := by decide +kernel
theorem dL_law_305 : decode cL_law 305 = .ok (.iload_n 3, 1) := by decide +kernel
theorem dL_law_306 : decode cL_law 306 = .ok (.iconst 1, 1) := by decide +kernel
theorem dL_law_307 : decode cL_law 307 = .ok (.iadd, 1) := by decide +kernel
theorem dL_law_308 : decode cL_law 308 = .ok (.iaload, 1) := by decide +kernel
theorem dL_law_309 : decode cL_law 309 = .ok (.aload_n 0, 1) := by decide +kernel
theorem dL_law_310 : decode cL_law 310 = .ok (.iload_n 3, 1) := by decide +kernel
theorem dL_law_311 : decode cL_law 311 = .ok (.iconst 2, 1) := by decide +kernel
theorem dL_law_312 : decode cL_law 312 = .ok (.iadd, 1) := by decide +kernel
theorem dL_law_313 : decode cL_law 313 = .ok (.iaload, 1) := by decide +kernel
theorem dL_law_314 : decode cL_law 314 = .ok (.invokevirtual 38, 3) := by decide +kernel
theorem dL_law_317 : decode cL_law 317 = .ok (.aload_n 2, 1) := by decide +kernel
theorem dL_law_318 : decode cL_law 318 = .ok (.aload_n 0, 1) := by decide +kernel
theorem dL_law_319 : decode cL_law 319 = .ok (.iload_n 3, 1) := by decide +kernel
theorem dL_law_320 : decode cL_law 320 = .ok (.iconst 1, 1) := by decide +kernel
theorem dL_law_321 : decode cL_law 321 = .ok (.iadd, 1) := by decide +kernel
theorem dL_law_322 : decode cL_law 322 = .ok (.iaload, 1) := by decide +kernel
theorem dL_law_323 : decode cL_law 323 = .ok (.aload_n 0, 1) := by decide +kernel
theorem dL_law_324 : decode cL_law 324 = .ok (.iload_n 3, 1) := by decide +kernel
theorem dL_law_325 : decode cL_law 325 = .ok (.iconst 2, 1) := by decide +kernel
theorem dL_law_326 : decode cL_law 326 = .ok (.iadd, 1) := by decide +kernel
theorem dL_law_327 : decode cL_law 327 = .ok (.iaload, 1) := by decide +kernel
theorem dL_law_328 : decode cL_law 328 = .ok (.invokevirtual 41, 3) := by decide +kernel
theorem dL_law_331 : decode cL_law 331 = .ok (.if_icmp .eq 643, 3) := by decide +kernel
theorem dL_law_334 : decode cL_law 334 = .ok (.iconst 0, 1) := by decide +kernel
theorem dL_law_335 : decode cL_law 335 = .ok (.ireturn, 1) := by decide +kernel
theorem dL_law_336 : decode cL_law 336 = .ok (.aload_n 1, 1) := by decide +kernel
theorem dL_law_337 : decode cL_law 337 = .ok (.aload_n 0, 1) := by decide +kernel
theorem dL_law_338 : decode cL_law 338 = .ok (.iload_n 3, 1) := by decide +kernel
theorem dL_law_339 : decode cL_law 339 = .ok (.iconst 1, 1) := by decide +kernel
theorem dL_law_340 : decode cL_law 340 = .ok (.iadd, 1) := by decide +kernel
theorem dL_law_341 : decode cL_law 341 = .ok (.iaload, 1) := by decide +kernel
theorem dL_law_342 : decode cL_law 342 = .ok (.invokevirtual 42, 3) := by decide +kernel
theorem dL_law_345 : decode cL_law 345 = .ok (.aload_n 2, 1) := by decide +kernel
theorem dL_law_346 : decode cL_law 346 = .ok (.aload_n 0, 1) := by decide +kernel
theorem dL_law_347 : decode cL_law 347 = .ok (.iload_n 3, 1) := by decide +kernel
theorem dL_law_348 : decode cL_law 348 = .ok (.iconst 1, 1) := by decide +kernel
theorem dL_law_349 : decode cL_law 349 = .ok (.iadd, 1) := by decide +kernel
theorem dL_law_350 : decode cL_law 350 = .ok (.iaload, 1) := by decide +kernel
theorem dL_law_351 : decode cL_law 351 = .ok (.invokevirtual 46, 3) := by decide +kernel
theorem dL_law_354 : decode cL_law 354 = .ok (.if_icmp .eq 620, 3) := by decide +kernel
theorem dL_law_357 : decode cL_law 357 = .ok (.iconst 0, 1) := by decide +kernel
theorem dL_law_358 : decode cL_law 358 = .ok (.ireturn, 1) := by decide +kernel
theorem dL_law_359 : decode cL_law 359 = .ok (.aload_n 1, 1) := by decide +kernel
theorem dL_law_360 : decode cL_law 360 = .ok (.aload_n 0, 1) := by decide +kernel
theorem dL_law_361 : decode cL_law 361 = .ok (.iload_n 3, 1) := by decide +kernel
theorem dL_law_362 : decode cL_law 362 = .ok (.iconst 1, 1) := by decide +kernel
theorem dL_law_363 : decode cL_law 363 = .ok (.iadd, 1) := by decide +kernel
theorem dL_law_364 : decode cL_law 364 = .ok (.iaload, 1) := by decide +kernel
theorem dL_law_365 : decode cL_law 365 = .ok (.aload_n 0, 1) := by decide +kernel
theorem dL_law_366 : decode cL_law 366 = .ok (.iload_n 3, 1) := by decide +kernel
theorem dL_law_367 : decode cL_law 367 = .ok (.iconst 2, 1) := by decide +kernel
theorem dL_law_368 : decode cL_law 368 = .ok (.iadd, 1) := by decide +kernel
theorem dL_law_369 : decode cL_law 369 = .ok (.iaload, 1) := by decide +kernel
theorem dL_law_370 : decode cL_law 370 = .ok (.invokevirtual 47, 3) := by decide +kernel
theorem dL_law_373 : decode cL_law 373 = .ok (.aload_n 2, 1) := by decide +kernel
theorem dL_law_374 : decode cL_law 374 = .ok (.aload_n 0, 1) := by decide +kernel
theorem dL_law_375 : decode cL_law 375 = .ok (.iload_n 3, 1) := by decide +kernel
theorem dL_law_376 : decode cL_law 376 = .ok (.iconst 1, 1) := by decide +kernel
theorem dL_law_377 : decode cL_law 377 = .ok (.iadd, 1) := by decide +kernel
theorem dL_law_378 : decode cL_law 378 = .ok (.iaload, 1) := by decide +kernel
theorem dL_law_379 : decode cL_law 379 = .ok (.aload_n 0, 1) := by decide +kernel
theorem dL_law_380 : decode cL_law 380 = .ok (.iload_n 3, 1) := by decide +kernel
theorem dL_law_381 : decode cL_law 381 = .ok (.iconst 2, 1) := by decide +kernel
theorem dL_law_382 : decode cL_law 382 = .ok (.iadd, 1) := by decide +kernel
theorem dL_law_383 : decode cL_law 383 = .ok (.iaload, 1) := by decide +kernel
theorem dL_law_384 : decode cL_law 384 = .ok (.invokevirtual 50, 3) := by decide +kernel
theorem dL_law_387 : decode cL_law 387 = .ok (.if_icmp .eq 587, 3) := by decide +kernel
theorem dL_law_390 : decode cL_law 390 = .ok (.iconst 0, 1) := by decide +kernel
theorem dL_law_391 : decode cL_law 391 = .ok (.ireturn, 1) := by decide +kernel
theorem dL_law_392 : decode cL_law 392 = .ok (.aload_n 1, 1) := by decide +kernel
theorem dL_law_393 : decode cL_law 393 = .ok (.aload_n 0, 1) := by decide +kernel
theorem dL_law_394 : decode cL_law 394 = .ok (.iload_n 3, 1) := by decide +kernel
theorem dL_law_395 : decode cL_law 395 = .ok (.iconst 1, 1) := by decide +kernel
theorem dL_law_396 : decode cL_law 396 = .ok (.iadd, 1) := by decide +kernel
theorem dL_law_397 : decode cL_law 397 = .ok (.iaload, 1) := by decide +kernel
theorem dL_law_398 : decode cL_law 398 = .ok (.aload_n 0, 1) := by decide +kernel
theorem dL_law_399 : decode cL_law 399 = .ok (.iload_n 3, 1) := by decide +kernel
theorem dL_law_400 : decode cL_law 400 = .ok (.iconst 2, 1) := by decide +kernel
theorem dL_law_401 : decode cL_law 401 = .ok (.iadd, 1) := by decide +kernel
theorem dL_law_402 : decode cL_law 402 = .ok (.iaload, 1) := by decide +kernel
theorem dL_law_403 : decode cL_law 403 = .ok (.invokevirtual 51, 3) := by decide +kernel
theorem dL_law_406 : decode cL_law 406 = .ok (.aload_n 2, 1) := by decide +kernel
theorem dL_law_407 : decode cL_law 407 = .ok (.aload_n 0, 1) := by decide +kernel
theorem dL_law_408 : decode cL_law 408 = .ok (.iload_n 3, 1) := by decide +kernel
theorem dL_law_409 : decode cL_law 409 = .ok (.iconst 1, 1) := by decide +kernel
theorem dL_law_410 : decode cL_law 410 = .ok (.iadd, 1) := by decide +kernel
theorem dL_law_411 : decode cL_law 411 = .ok (.iaload, 1) := by decide +kernel
theorem dL_law_412 : decode cL_law 412 = .ok (.aload_n 0, 1) := by decide +kernel
theorem dL_law_413 : decode cL_law 413 = .ok (.iload_n 3, 1) := by decide +kernel
theorem dL_law_414 : decode cL_law 414 = .ok (.iconst 2, 1) := by decide +kernel
theorem dL_law_415 : decode cL_law 415 = .ok (.iadd, 1) := by decide +kernel
theorem dL_law_416 : decode cL_law 416 = .ok (.iaload, 1) := by decide +kernel
theorem dL_law_417 : decode cL_law 417 = .ok (.invokevirtual 54, 3) := by decide +kernel
theorem dL_law_420 : decode cL_law 420 = .ok (.if_icmp .eq 554, 3) := by decide +kernel
theorem dL_law_423 : decode cL_law 423 = .ok (.iconst 0, 1) := by decide +kernel
theorem dL_law_424 : decode cL_law 424 = .ok (.ireturn, 1) := by decide +kernel
theorem dL_law_425 : decode cL_law 425 = .ok (.aload_n 1, 1) := by decide +kernel
theorem dL_law_426 : decode cL_law 426 = .ok (.aload_n 0, 1) := by decide +kernel
theorem dL_law_427 : decode cL_law 427 = .ok (.iload_n 3, 1) := by decide +kernel
theorem dL_law_428 : decode cL_law 428 = .ok (.iconst 1, 1) := by decide +kernel
theorem dL_law_429 : decode cL_law 429 = .ok (.iadd, 1) := by decide +kernel
theorem dL_law_430 : decode cL_law 430 = .ok (.iaload, 1) := by decide +kernel
theorem dL_law_431 : decode cL_law 431 = .ok (.invokevirtual 55, 3) := by decide +kernel
theorem dL_law_434 : decode cL_law 434 = .ok (.aload_n 2, 1) := by decide +kernel
theorem dL_law_435 : decode cL_law 435 = .ok (.aload_n 0, 1) := by decide +kernel
theorem dL_law_436 : decode cL_law 436 = .ok (.iload_n 3, 1) := by decide +kernel
theorem dL_law_437 : decode cL_law 437 = .ok (.iconst 1, 1) := by decide +kernel
theorem dL_law_438 : decode cL_law 438 = .ok (.iadd, 1) := by decide +kernel
theorem dL_law_439 : decode cL_law 439 = .ok (.iaload, 1) := by decide +kernel
theorem dL_law_440 : decode cL_law 440 = .ok (.invokevirtual 58, 3) := by decide +kernel
theorem dL_law_443 : decode cL_law 443 = .ok (.if_icmp .eq 531, 3) := by decide +kernel
theorem dL_law_446 : decode cL_law 446 = .ok (.iconst 0, 1) := by decide +kernel
theorem dL_law_447 : decode cL_law 447 = .ok (.ireturn, 1) := by decide +kernel
theorem dL_law_448 : decode cL_law 448 = .ok (.aload_n 1, 1) := by decide +kernel
theorem dL_law_449 : decode cL_law 449 = .ok (.aload_n 0, 1) := by decide +kernel
theorem dL_law_450 : decode cL_law 450 = .ok (.iload_n 3, 1) := by decide +kernel
theorem dL_law_451 : decode cL_law 451 = .ok (.iconst 1, 1) := by decide +kernel
theorem dL_law_452 : decode cL_law 452 = .ok (.iadd, 1) := by decide +kernel
theorem dL_law_453 : decode cL_law 453 = .ok (.iaload, 1) := by decide +kernel
theorem dL_law_454 : decode cL_law 454 = .ok (.invokevirtual 59, 3) := by decide +kernel
theorem dL_law_457 : decode cL_law 457 = .ok (.aload_n 2, 1) := by decide +kernel
theorem dL_law_458 : decode cL_law 458 = .ok (.aload_n 0, 1) := by decide +kernel
theorem dL_law_459 : decode cL_law 459 = .ok (.iload_n 3, 1) := by decide +kernel
theorem dL_law_460 : decode cL_law 460 = .ok (.iconst 1, 1) := by decide +kernel
theorem dL_law_461 : decode cL_law 461 = .ok (.iadd, 1) := by decide +kernel
theorem dL_law_462 : decode cL_law 462 = .ok (.iaload, 1) := by decide +kernel
theorem dL_law_463 : decode cL_law 463 = .ok (.invokevirtual 62, 3) := by decide +kernel
theorem dL_law_466 : decode cL_law 466 = .ok (.if_icmp .eq 508, 3) := by decide +kernel
theorem dL_law_469 : decode cL_law 469 = .ok (.iconst 0, 1) := by decide +kernel
theorem dL_law_470 : decode cL_law 470 = .ok (.ireturn, 1) := by decide +kernel
theorem dL_law_471 : decode cL_law 471 = .ok (.aload_n 1, 1) := by decide +kernel
theorem dL_law_472 : decode cL_law 472 = .ok (.aload_n 0, 1) := by decide +kernel
theorem dL_law_473 : decode cL_law 473 = .ok (.iload_n 3, 1) := by decide +kernel
theorem dL_law_474 : decode cL_law 474 = .ok (.iconst 1, 1) := by decide +kernel
theorem dL_law_475 : decode cL_law 475 = .ok (.iadd, 1) := by decide +kernel
theorem dL_law_476 : decode cL_law 476 = .ok (.iaload, 1) := by decide +kernel
theorem dL_law_477 : decode cL_law 477 = .ok (.aload_n 0, 1) := by decide +kernel
theorem dL_law_478 : decode cL_law 478 = .ok (.iload_n 3, 1) := by decide +kernel
theorem dL_law_479 : decode cL_law 479 = .ok (.iconst 2, 1) := by decide +kernel
theorem dL_law_480 : decode cL_law 480 = .ok (.iadd, 1) := by decide +kernel
theorem dL_law_481 : decode cL_law 481 = .ok (.iaload, 1) := by decide +kernel
theorem dL_law_482 : decode cL_law 482 = .ok (.invokevirtual 63, 3) := by decide +kernel
theorem dL_law_485 : decode cL_law 485 = .ok (.aload_n 2, 1) := by decide +kernel
theorem dL_law_486 : decode cL_law 486 = .ok (.aload_n 0, 1) := by decide +kernel
theorem dL_law_487 : decode cL_law 487 = .ok (.iload_n 3, 1) := by decide +kernel
theorem dL_law_488 : decode cL_law 488 = .ok (.iconst 1, 1) := by decide +kernel
theorem dL_law_489 : decode cL_law 489 = .ok (.iadd, 1) := by decide +kernel
theorem dL_law_490 : decode cL_law 490 = .ok (.iaload, 1) := by decide +kernel
theorem dL_law_491 : decode cL_law 491 = .ok (.aload_n 0, 1) := by decide +kernel
theorem dL_law_492 : decode cL_law 492 = .ok (.iload_n 3, 1) := by decide +kernel
theorem dL_law_493 : decode cL_law 493 = .ok (.iconst 2, 1) := by decide +kernel
theorem dL_law_494 : decode cL_law 494 = .ok (.iadd, 1) := by decide +kernel
theorem dL_law_495 : decode cL_law 495 = .ok (.iaload, 1) := by decide +kernel
theorem dL_law_496 : decode cL_law 496 = .ok (.invokevirtual 66, 3) := by decide +kernel
theorem dL_law_499 : decode cL_law 499 = .ok (.if_icmp .eq 475, 3) := by decide +kernel
theorem dL_law_502 : decode cL_law 502 = .ok (.iconst 0, 1) := by decide +kernel
theorem dL_law_503 : decode cL_law 503 = .ok (.ireturn, 1) := by decide +kernel
theorem dL_law_504 : decode cL_law 504 = .ok (.aload_n 1, 1) := by decide +kernel
theorem dL_law_505 : decode cL_law 505 = .ok (.aload_n 0, 1) := by decide +kernel
theorem dL_law_506 : decode cL_law 506 = .ok (.iload_n 3, 1) := by decide +kernel
theorem dL_law_507 : decode cL_law 507 = .ok (.iconst 1, 1) := by decide +kernel
theorem dL_law_508 : decode cL_law 508 = .ok (.iadd, 1) := by decide +kernel
theorem dL_law_509 : decode cL_law 509 = .ok (.iaload, 1) := by decide +kernel
theorem dL_law_510 : decode cL_law 510 = .ok (.invokevirtual 67, 3) := by decide +kernel
theorem dL_law_513 : decode cL_law 513 = .ok (.aload_n 2, 1) := by decide +kernel
theorem dL_law_514 : decode cL_law 514 = .ok (.aload_n 0, 1) := by decide +kernel
theorem dL_law_515 : decode cL_law 515 = .ok (.iload_n 3, 1) := by decide +kernel
theorem dL_law_516 : decode cL_law 516 = .ok (.iconst 1, 1) := by decide +kernel
theorem dL_law_517 : decode cL_law 517 = .ok (.iadd, 1) := by decide +kernel
theorem dL_law_518 : decode cL_law 518 = .ok (.iaload, 1) := by decide +kernel
theorem dL_law_519 : decode cL_law 519 = .ok (.invokevirtual 70, 3) := by decide +kernel
theorem dL_law_522 : decode cL_law 522 = .ok (.if_icmp .eq 452, 3) := by decide +kernel
theorem dL_law_525 : decode cL_law 525 = .ok (.iconst 0, 1) := by decide +kernel
theorem dL_law_526 : decode cL_law 526 = .ok (.ireturn, 1) := by decide +kernel
theorem dL_law_527 : decode cL_law 527 = .ok (.aload_n 1, 1) := by decide +kernel
theorem dL_law_528 : decode cL_law 528 = .ok (.aload_n 0, 1) := by decide +kernel
theorem dL_law_529 : decode cL_law 529 = .ok (.iload_n 3, 1) := by decide +kernel
theorem dL_law_530 : decode cL_law 530 = .ok (.iconst 1, 1) := by decide +kernel
theorem dL_law_531 : decode cL_law 531 = .ok (.iadd, 1) := by decide +kernel
theorem dL_law_532 : decode cL_law 532 = .ok (.iaload, 1) := by decide +kernel
theorem dL_law_533 : decode cL_law 533 = .ok (.aload_n 0, 1) := by decide +kernel
theorem dL_law_534 : decode cL_law 534 = .ok (.iload_n 3, 1) := by decide +kernel
theorem dL_law_535 : decode cL_law 535 = .ok (.iconst 2, 1) := by decide +kernel
theorem dL_law_536 : decode cL_law 536 = .ok (.iadd, 1) := by decide +kernel
theorem dL_law_537 : decode cL_law 537 = .ok (.iaload, 1) := by decide +kernel
theorem dL_law_538 : decode cL_law 538 = .ok (.invokevirtual 71, 3) := by decide +kernel
theorem dL_law_541 : decode cL_law 541 = .ok (.aload_n 2, 1) := by decide +kernel
theorem dL_law_542 : decode cL_law 542 = .ok (.aload_n 0, 1) := by decide +kernel
theorem dL_law_543 : decode cL_law 543 = .ok (.iload_n 3, 1) := by decide +kernel
theorem dL_law_544 : decode cL_law 544 = .ok (.iconst 1, 1) := by decide +kernel
theorem dL_law_545 : decode cL_law 545 = .ok (.iadd, 1) := by decide +kernel
theorem dL_law_546 : decode cL_law 546 = .ok (.iaload, 1) := by decide +kernel
theorem dL_law_547 : decode cL_law 547 = .ok (.aload_n 0, 1) := by decide +kernel
theorem dL_law_548 : decode cL_law 548 = .ok (.iload_n 3, 1) := by decide +kernel
theorem dL_law_549 : decode cL_law 549 = .ok (.iconst 2, 1) := by decide +kernel
theorem dL_law_550 : decode cL_law 550 = .ok (.iadd, 1) := by decide +kernel
theorem dL_law_551 : decode cL_law 551 = .ok (.iaload, 1) := by decide +kernel
theorem dL_law_552 : decode cL_law 552 = .ok (.invokevirtual 74, 3) := by decide +kernel
theorem dL_law_555 : decode cL_law 555 = .ok (.if_icmp .eq 419, 3) := by decide +kernel
theorem dL_law_558 : decode cL_law 558 = .ok (.iconst 0, 1) := by decide +kernel
theorem dL_law_559 : decode cL_law 559 = .ok (.ireturn, 1) := by decide +kernel
theorem dL_law_560 : decode cL_law 560 = .ok (.aload_n 1, 1) := by decide +kernel
theorem dL_law_561 : decode cL_law 561 = .ok (.aload_n 0, 1) := by decide +kernel
theorem dL_law_562 : decode cL_law 562 = .ok (.iload_n 3, 1) := by decide +kernel
theorem dL_law_563 : decode cL_law 563 = .ok (.iconst 1, 1) := by decide +kernel
theorem dL_law_564 : decode cL_law 564 = .ok (.iadd, 1) := by decide +kernel
theorem dL_law_565 : decode cL_law 565 = .ok (.iaload, 1) := by decide +kernel
theorem dL_law_566 : decode cL_law 566 = .ok (.aload_n 0, 1) := by decide +kernel
theorem dL_law_567 : decode cL_law 567 = .ok (.iload_n 3, 1) := by decide +kernel
theorem dL_law_568 : decode cL_law 568 = .ok (.iconst 2, 1) := by decide +kernel
theorem dL_law_569 : decode cL_law 569 = .ok (.iadd, 1) := by decide +kernel
theorem dL_law_570 : decode cL_law 570 = .ok (.iaload, 1) := by decide +kernel
theorem dL_law_571 : decode cL_law 571 = .ok (.invokevirtual 75, 3) := by decide +kernel
theorem dL_law_574 : decode cL_law 574 = .ok (.aload_n 2, 1) := by decide +kernel
theorem dL_law_575 : decode cL_law 575 = .ok (.aload_n 0, 1) := by decide +kernel
theorem dL_law_576 : decode cL_law 576 = .ok (.iload_n 3, 1) := by decide +kernel
theorem dL_law_577 : decode cL_law 577 = .ok (.iconst 1, 1) := by decide +kernel
theorem dL_law_578 : decode cL_law 578 = .ok (.iadd, 1) := by decide +kernel
theorem dL_law_579 : decode cL_law 579 = .ok (.iaload, 1) := by decide +kernel
theorem dL_law_580 : decode cL_law 580 = .ok (.aload_n 0, 1) := by decide +kernel
theorem dL_law_581 : decode cL_law 581 = .ok (.iload_n 3, 1) := by decide +kernel
theorem dL_law_582 : decode cL_law 582 = .ok (.iconst 2, 1) := by decide +kernel
theorem dL_law_583 : decode cL_law 583 = .ok (.iadd, 1) := by decide +kernel
theorem dL_law_584 : decode cL_law 584 = .ok (.iaload, 1) := by decide +kernel
theorem dL_law_585 : decode cL_law 585 = .ok (.invokevirtual 78, 3) := by decide +kernel
theorem dL_law_588 : decode cL_law 588 = .ok (.if_icmp .eq 386, 3) := by decide +kernel
theorem dL_law_591 : decode cL_law 591 = .ok (.iconst 0, 1) := by decide +kernel
theorem dL_law_592 : decode cL_law 592 = .ok (.ireturn, 1) := by decide +kernel
theorem dL_law_593 : decode cL_law 593 = .ok (.aload_n 1, 1) := by decide +kernel
theorem dL_law_594 : decode cL_law 594 = .ok (.aload_n 0, 1) := by decide +kernel
theorem dL_law_595 : decode cL_law 595 = .ok (.iload_n 3, 1) := by decide +kernel
theorem dL_law_596 : decode cL_law 596 = .ok (.iconst 1, 1) := by decide +kernel
theorem dL_law_597 : decode cL_law 597 = .ok (.iadd, 1) := by decide +kernel
theorem dL_law_598 : decode cL_law 598 = .ok (.iaload, 1) := by decide +kernel
theorem dL_law_599 : decode cL_law 599 = .ok (.aload_n 0, 1) := by decide +kernel
theorem dL_law_600 : decode cL_law 600 = .ok (.iload_n 3, 1) := by decide +kernel
theorem dL_law_601 : decode cL_law 601 = .ok (.iconst 2, 1) := by decide +kernel
theorem dL_law_602 : decode cL_law 602 = .ok (.iadd, 1) := by decide +kernel
theorem dL_law_603 : decode cL_law 603 = .ok (.iaload, 1) := by decide +kernel
theorem dL_law_604 : decode cL_law 604 = .ok (.aload_n 0, 1) := by decide +kernel
theorem dL_law_605 : decode cL_law 605 = .ok (.iload_n 3, 1) := by decide +kernel
theorem dL_law_606 : decode cL_law 606 = .ok (.iconst 3, 1) := by decide +kernel
theorem dL_law_607 : decode cL_law 607 = .ok (.iadd, 1) := by decide +kernel
theorem dL_law_608 : decode cL_law 608 = .ok (.iaload, 1) := by decide +kernel
theorem dL_law_609 : decode cL_law 609 = .ok (.invokevirtual 79, 3) := by decide +kernel
theorem dL_law_612 : decode cL_law 612 = .ok (.aload_n 2, 1) := by decide +kernel
theorem dL_law_613 : decode cL_law 613 = .ok (.aload_n 0, 1) := by decide +kernel
theorem dL_law_614 : decode cL_law 614 = .ok (.iload_n 3, 1) := by decide +kernel
theorem dL_law_615 : decode cL_law 615 = .ok (.iconst 1, 1) := by decide +kernel
theorem dL_law_616 : decode cL_law 616 = .ok (.iadd, 1) := by decide +kernel
theorem dL_law_617 : decode cL_law 617 = .ok (.iaload, 1) := by decide +kernel
theorem dL_law_618 : decode cL_law 618 = .ok (.aload_n 0, 1) := by decide +kernel
theorem dL_law_619 : decode cL_law 619 = .ok (.iload_n 3, 1) := by decide +kernel
theorem dL_law_620 : decode cL_law 620 = .ok (.iconst 2, 1) := by decide +kernel
theorem dL_law_621 : decode cL_law 621 = .ok (.iadd, 1) := by decide +kernel
theorem dL_law_622 : decode cL_law 622 = .ok (.iaload, 1) := by decide +kernel
theorem dL_law_623 : decode cL_law 623 = .ok (.aload_n 0, 1) := by decide +kernel
theorem dL_law_624 : decode cL_law 624 = .ok (.iload_n 3, 1) := by decide +kernel
theorem dL_law_625 : decode cL_law 625 = .ok (.iconst 3, 1) := by decide +kernel
theorem dL_law_626 : decode cL_law 626 = .ok (.iadd, 1) := by decide +kernel
theorem dL_law_627 : decode cL_law 627 = .ok (.iaload, 1) := by decide +kernel
theorem dL_law_628 : decode cL_law 628 = .ok (.invokevirtual 83, 3) := by decide +kernel
theorem dL_law_631 : decode cL_law 631 = .ok (.if_icmp .eq 343, 3) := by decide +kernel
theorem dL_law_634 : decode cL_law 634 = .ok (.iconst 0, 1) := by decide +kernel
theorem dL_law_635 : decode cL_law 635 = .ok (.ireturn, 1) := by decide +kernel
theorem dL_law_636 : decode cL_law 636 = .ok (.aload_n 1, 1) := by decide +kernel
theorem dL_law_637 : decode cL_law 637 = .ok (.aload_n 0, 1) := by decide +kernel
theorem dL_law_638 : decode cL_law 638 = .ok (.iload_n 3, 1) := by decide +kernel
theorem dL_law_639 : decode cL_law 639 = .ok (.iconst 1, 1) := by decide +kernel
theorem dL_law_640 : decode cL_law 640 = .ok (.iadd, 1) := by decide +kernel
theorem dL_law_641 : decode cL_law 641 = .ok (.iaload, 1) := by decide +kernel
theorem dL_law_642 : decode cL_law 642 = .ok (.invokevirtual 84, 3) := by decide +kernel
theorem dL_law_645 : decode cL_law 645 = .ok (.aload_n 2, 1) := by decide +kernel
theorem dL_law_646 : decode cL_law 646 = .ok (.aload_n 0, 1) := by decide +kernel
theorem dL_law_647 : decode cL_law 647 = .ok (.iload_n 3, 1) := by decide +kernel
theorem dL_law_648 : decode cL_law 648 = .ok (.iconst 1, 1) := by decide +kernel
theorem dL_law_649 : decode cL_law 649 = .ok (.iadd, 1) := by decide +kernel
theorem dL_law_650 : decode cL_law 650 = .ok (.iaload, 1) := by decide +kernel
theorem dL_law_651 : decode cL_law 651 = .ok (.invokevirtual 87, 3) := by decide +kernel
theorem dL_law_654 : decode cL_law 654 = .ok (.if_icmp .eq 320, 3) := by decide +kernel
theorem dL_law_657 : decode cL_law 657 = .ok (.iconst 0, 1) := by decide +kernel
theorem dL_law_658 : decode cL_law 658 = .ok (.ireturn, 1) := by decide +kernel
theorem dL_law_659 : decode cL_law 659 = .ok (.aload_n 1, 1) := by decide +kernel
theorem dL_law_660 : decode cL_law 660 = .ok (.invokevirtual 88, 3) := by decide +kernel
theorem dL_law_663 : decode cL_law 663 = .ok (.aload_n 2, 1) := by decide +kernel
theorem dL_law_664 : decode cL_law 664 = .ok (.invokevirtual 91, 3) := by decide +kernel
theorem dL_law_667 : decode cL_law 667 = .ok (.if_icmp .eq 307, 3) := by decide +kernel
theorem dL_law_670 : decode cL_law 670 = .ok (.iconst 0, 1) := by decide +kernel
theorem dL_law_671 : decode cL_law 671 = .ok (.ireturn, 1) := by decide +kernel
theorem dL_law_672 : decode cL_law 672 = .ok (.aload_n 1, 1) := by decide +kernel
theorem dL_law_673 : decode cL_law 673 = .ok (.aload_n 0, 1) := by decide +kernel
theorem dL_law_674 : decode cL_law 674 = .ok (.iload_n 3, 1) := by decide +kernel
theorem dL_law_675 : decode cL_law 675 = .ok (.iconst 1, 1) := by decide +kernel
theorem dL_law_676 : decode cL_law 676 = .ok (.iadd, 1) := by decide +kernel
theorem dL_law_677 : decode cL_law 677 = .ok (.iaload, 1) := by decide +kernel
theorem dL_law_678 : decode cL_law 678 = .ok (.invokevirtual 92, 3) := by decide +kernel
theorem dL_law_681 : decode cL_law 681 = .ok (.aload_n 2, 1) := by decide +kernel
theorem dL_law_682 : decode cL_law 682 = .ok (.aload_n 0, 1) := by decide +kernel
theorem dL_law_683 : decode cL_law 683 = .ok (.iload_n 3, 1) := by decide +kernel
theorem dL_law_684 : decode cL_law 684 = .ok (.iconst 1, 1) := by decide +kernel
theorem dL_law_685 : decode cL_law 685 = .ok (.iadd, 1) := by decide +kernel
theorem dL_law_686 : decode cL_law 686 = .ok (.iaload, 1) := by decide +kernel
theorem dL_law_687 : decode cL_law 687 = .ok (.invokevirtual 95, 3) := by decide +kernel
theorem dL_law_690 : decode cL_law 690 = .ok (.if_icmp .eq 284, 3) := by decide +kernel
theorem dL_law_693 : decode cL_law 693 = .ok (.iconst 0, 1) := by decide +kernel
theorem dL_law_694 : decode cL_law 694 = .ok (.ireturn, 1) := by decide +kernel
theorem dL_law_695 : decode cL_law 695 = .ok (.aload_n 1, 1) := by decide +kernel
theorem dL_law_696 : decode cL_law 696 = .ok (.aload_n 0, 1) := by decide +kernel
theorem dL_law_697 : decode cL_law 697 = .ok (.iload_n 3, 1) := by decide +kernel
theorem dL_law_698 : decode cL_law 698 = .ok (.iconst 1, 1) := by decide +kernel
theorem dL_law_699 : decode cL_law 699 = .ok (.iadd, 1) := by decide +kernel
theorem dL_law_700 : decode cL_law 700 = .ok (.iaload, 1) := by decide +kernel
theorem dL_law_701 : decode cL_law 701 = .ok (.invokevirtual 96, 3) := by decide +kernel
theorem dL_law_704 : decode cL_law 704 = .ok (.aload_n 2, 1) := by decide +kernel
theorem dL_law_705 : decode cL_law 705 = .ok (.aload_n 0, 1) := by decide +kernel
theorem dL_law_706 : decode cL_law 706 = .ok (.iload_n 3, 1) := by decide +kernel
theorem dL_law_707 : decode cL_law 707 = .ok (.iconst 1, 1) := by decide +kernel
theorem dL_law_708 : decode cL_law 708 = .ok (.iadd, 1) := by decide +kernel
theorem dL_law_709 : decode cL_law 709 = .ok (.iaload, 1) := by decide +kernel
theorem dL_law_710 : decode cL_law 710 = .ok (.invokevirtual 99, 3) := by decide +kernel
theorem dL_law_713 : decode cL_law 713 = .ok (.if_icmp .eq 261, 3) := by decide +kernel
theorem dL_law_716 : decode cL_law 716 = .ok (.iconst 0, 1) := by decide +kernel
theorem dL_law_717 : decode cL_law 717 = .ok (.ireturn, 1) := by decide +kernel
theorem dL_law_718 : decode cL_law 718 = .ok (.aload_n 1, 1) := by decide +kernel
theorem dL_law_719 : decode cL_law 719 = .ok (.invokevirtual 100, 3) := by decide +kernel
theorem dL_law_722 : decode cL_law 722 = .ok (.aload_n 2, 1) := by decide +kernel
theorem dL_law_723 : decode cL_law 723 = .ok (.invokevirtual 103, 3) := by decide +kernel
theorem dL_law_726 : decode cL_law 726 = .ok (.if_icmp .eq 248, 3) := by decide +kernel
theorem dL_law_729 : decode cL_law 729 = .ok (.iconst 0, 1) := by decide +kernel
theorem dL_law_730 : decode cL_law 730 = .ok (.ireturn, 1) := by decide +kernel
theorem dL_law_731 : decode cL_law 731 = .ok (.aload_n 1, 1) := by decide +kernel
theorem dL_law_732 : decode cL_law 732 = .ok (.aload_n 0, 1) := by decide +kernel
theorem dL_law_733 : decode cL_law 733 = .ok (.iload_n 3, 1) := by decide +kernel
theorem dL_law_734 : decode cL_law 734 = .ok (.iconst 1, 1) := by decide +kernel
theorem dL_law_735 : decode cL_law 735 = .ok (.iadd, 1) := by decide +kernel
theorem dL_law_736 : decode cL_law 736 = .ok (.iaload, 1) := by decide +kernel
theorem dL_law_737 : decode cL_law 737 = .ok (.aload_n 0, 1) := by decide +kernel
theorem dL_law_738 : decode cL_law 738 = .ok (.iload_n 3, 1) := by decide +kernel
theorem dL_law_739 : decode cL_law 739 = .ok (.iconst 2, 1) := by decide +kernel
theorem dL_law_740 : decode cL_law 740 = .ok (.iadd, 1) := by decide +kernel
theorem dL_law_741 : decode cL_law 741 = .ok (.iaload, 1) := by decide +kernel
theorem dL_law_742 : decode cL_law 742 = .ok (.ifCond .eq 7, 3) := by decide +kernel
theorem dL_law_745 : decode cL_law 745 = .ok (.iconst 1, 1) := by decide +kernel
theorem dL_law_746 : decode cL_law 746 = .ok (.goto 4, 3) := by decide +kernel
theorem dL_law_749 : decode cL_law 749 = .ok (.iconst 0, 1) := by decide +kernel
theorem dL_law_750 : decode cL_law 750 = .ok (.invokevirtual 104, 3) := by decide +kernel
theorem dL_law_753 : decode cL_law 753 = .ok (.aload_n 2, 1) := by decide +kernel
theorem dL_law_754 : decode cL_law 754 = .ok (.aload_n 0, 1) := by decide +kernel
theorem dL_law_755 : decode cL_law 755 = .ok (.iload_n 3, 1) := by decide +kernel
theorem dL_law_756 : decode cL_law 756 = .ok (.iconst 1, 1) := by decide +kernel
theorem dL_law_757 : decode cL_law 757 = .ok (.iadd, 1) := by decide +kernel
theorem dL_law_758 : decode cL_law 758 = .ok (.iaload, 1) := by decide +kernel
theorem dL_law_759 : decode cL_law 759 = .ok (.aload_n 0, 1) := by decide +kernel
theorem dL_law_760 : decode cL_law 760 = .ok (.iload_n 3, 1) := by decide +kernel
theorem dL_law_761 : decode cL_law 761 = .ok (.iconst 2, 1) := by decide +kernel
theorem dL_law_762 : decode cL_law 762 = .ok (.iadd, 1) := by decide +kernel
theorem dL_law_763 : decode cL_law 763 = .ok (.iaload, 1) := by decide +kernel
theorem dL_law_764 : decode cL_law 764 = .ok (.ifCond .eq 7, 3) := by decide +kernel
theorem dL_law_767 : decode cL_law 767 = .ok (.iconst 1, 1) := by decide +kernel
theorem dL_law_768 : decode cL_law 768 = .ok (.goto 4, 3) := by decide +kernel
theorem dL_law_771 : decode cL_law 771 = .ok (.iconst 0, 1) := by decide +kernel
theorem dL_law_772 : decode cL_law 772 = .ok (.invokevirtual 108, 3) := by decide +kernel
theorem dL_law_775 : decode cL_law 775 = .ok (.if_icmp .eq 199, 3) := by decide +kernel
theorem dL_law_778 : decode cL_law 778 = .ok (.iconst 0, 1) := by decide +kernel
theorem dL_law_779 : decode cL_law 779 = .ok (.ireturn, 1) := by decide +kernel
theorem dL_law_780 : decode cL_law 780 = .ok (.aload_n 1, 1) := by decide +kernel
theorem dL_law_781 : decode cL_law 781 = .ok (.aload_n 0, 1) := by decide +kernel
theorem dL_law_782 : decode cL_law 782 = .ok (.iload_n 3, 1) := by decide +kernel
theorem dL_law_783 : decode cL_law 783 = .ok (.iconst 1, 1) := by decide +kernel
theorem dL_law_784 : decode cL_law 784 = .ok (.iadd, 1) := by decide +kernel
theorem dL_law_785 : decode cL_law 785 = .ok (.iaload, 1) := by decide +kernel
theorem dL_law_786 : decode cL_law 786 = .ok (.aload_n 0, 1) := by decide +kernel
theorem dL_law_787 : decode cL_law 787 = .ok (.iload_n 3, 1) := by decide +kernel
theorem dL_law_788 : decode cL_law 788 = .ok (.iconst 2, 1) := by decide +kernel
theorem dL_law_789 : decode cL_law 789 = .ok (.iadd, 1) := by decide +kernel
theorem dL_law_790 : decode cL_law 790 = .ok (.iaload, 1) := by decide +kernel
theorem dL_law_791 : decode cL_law 791 = .ok (.invokevirtual 109, 3) := by decide +kernel
theorem dL_law_794 : decode cL_law 794 = .ok (.aload_n 2, 1) := by decide +kernel
theorem dL_law_795 : decode cL_law 795 = .ok (.aload_n 0, 1) := by decide +kernel
theorem dL_law_796 : decode cL_law 796 = .ok (.iload_n 3, 1) := by decide +kernel
theorem dL_law_797 : decode cL_law 797 = .ok (.iconst 1, 1) := by decide +kernel
theorem dL_law_798 : decode cL_law 798 = .ok (.iadd, 1) := by decide +kernel
theorem dL_law_799 : decode cL_law 799 = .ok (.iaload, 1) := by decide +kernel
theorem dL_law_800 : decode cL_law 800 = .ok (.aload_n 0, 1) := by decide +kernel
theorem dL_law_801 : decode cL_law 801 = .ok (.iload_n 3, 1) := by decide +kernel
theorem dL_law_802 : decode cL_law 802 = .ok (.iconst 2, 1) := by decide +kernel
theorem dL_law_803 : decode cL_law 803 = .ok (.iadd, 1) := by decide +kernel
theorem dL_law_804 : decode cL_law 804 = .ok (.iaload, 1) := by decide +kernel
theorem dL_law_805 : decode cL_law 805 = .ok (.invokevirtual 112, 3) := by decide +kernel
theorem dL_law_808 : decode cL_law 808 = .ok (.if_icmp .eq 166, 3) := by decide +kernel
theorem dL_law_811 : decode cL_law 811 = .ok (.iconst 0, 1) := by decide +kernel
theorem dL_law_812 : decode cL_law 812 = .ok (.ireturn, 1) := by decide +kernel
theorem dL_law_813 : decode cL_law 813 = .ok (.aload_n 1, 1) := by decide +kernel
theorem dL_law_814 : decode cL_law 814 = .ok (.aload_n 0, 1) := by decide +kernel
theorem dL_law_815 : decode cL_law 815 = .ok (.iload_n 3, 1) := by decide +kernel
theorem dL_law_816 : decode cL_law 816 = .ok (.iconst 1, 1) := by decide +kernel
theorem dL_law_817 : decode cL_law 817 = .ok (.iadd, 1) := by decide +kernel
theorem dL_law_818 : decode cL_law 818 = .ok (.iaload, 1) := by decide +kernel
theorem dL_law_819 : decode cL_law 819 = .ok (.aload_n 0, 1) := by decide +kernel
theorem dL_law_820 : decode cL_law 820 = .ok (.iload_n 3, 1) := by decide +kernel
theorem dL_law_821 : decode cL_law 821 = .ok (.iconst 2, 1) := by decide +kernel
theorem dL_law_822 : decode cL_law 822 = .ok (.iadd, 1) := by decide +kernel
theorem dL_law_823 : decode cL_law 823 = .ok (.iaload, 1) := by decide +kernel
theorem dL_law_824 : decode cL_law 824 = .ok (.invokevirtual 113, 3) := by decide +kernel
theorem dL_law_827 : decode cL_law 827 = .ok (.aload_n 2, 1) := by decide +kernel
theorem dL_law_828 : decode cL_law 828 = .ok (.aload_n 0, 1) := by decide +kernel
theorem dL_law_829 : decode cL_law 829 = .ok (.iload_n 3, 1) := by decide +kernel
theorem dL_law_830 : decode cL_law 830 = .ok (.iconst 1, 1) := by decide +kernel
theorem dL_law_831 : decode cL_law 831 = .ok (.iadd, 1) := by decide +kernel
theorem dL_law_832 : decode cL_law 832 = .ok (.iaload, 1) := by decide +kernel
theorem dL_law_833 : decode cL_law 833 = .ok (.aload_n 0, 1) := by decide +kernel
theorem dL_law_834 : decode cL_law 834 = .ok (.iload_n 3, 1) := by decide +kernel
theorem dL_law_835 : decode cL_law 835 = .ok (.iconst 2, 1) := by decide +kernel
theorem dL_law_836 : decode cL_law 836 = .ok (.iadd, 1) := by decide +kernel
theorem dL_law_837 : decode cL_law 837 = .ok (.iaload, 1) := by decide +kernel
theorem dL_law_838 : decode cL_law 838 = .ok (.invokevirtual 116, 3) := by decide +kernel
theorem dL_law_841 : decode cL_law 841 = .ok (.if_icmp .eq 133, 3) := by decide +kernel
theorem dL_law_844 : decode cL_law 844 = .ok (.iconst 0, 1) := by decide +kernel
theorem dL_law_845 : decode cL_law 845 = .ok (.ireturn, 1) := by decide +kernel
theorem dL_law_846 : decode cL_law 846 = .ok (.aload_n 1, 1) := by decide +kernel
theorem dL_law_847 : decode cL_law 847 = .ok (.invokevirtual 117, 3) := by decide +kernel
theorem dL_law_850 : decode cL_law 850 = .ok (.aload_n 2, 1) := by decide +kernel
theorem dL_law_851 : decode cL_law 851 = .ok (.invokevirtual 120, 3) := by decide +kernel
theorem dL_law_854 : decode cL_law 854 = .ok (.if_icmp .eq 120, 3) := by decide +kernel
theorem dL_law_857 : decode cL_law 857 = .ok (.iconst 0, 1) := by decide +kernel
theorem dL_law_858 : decode cL_law 858 = .ok (.ireturn, 1) := by decide +kernel
theorem dL_law_859 : decode cL_law 859 = .ok (.aload_n 1, 1) := by decide +kernel
theorem dL_law_860 : decode cL_law 860 = .ok (.aload_n 0, 1) := by decide +kernel
theorem dL_law_861 : decode cL_law 861 = .ok (.iload_n 3, 1) := by decide +kernel
theorem dL_law_862 : decode cL_law 862 = .ok (.iconst 1, 1) := by decide +kernel
theorem dL_law_863 : decode cL_law 863 = .ok (.iadd, 1) := by decide +kernel
theorem dL_law_864 : decode cL_law 864 = .ok (.iaload, 1) := by decide +kernel
theorem dL_law_865 : decode cL_law 865 = .ok (.invokevirtual 121, 3) := by decide +kernel
theorem dL_law_868 : decode cL_law 868 = .ok (.aload_n 2, 1) := by decide +kernel
theorem dL_law_869 : decode cL_law 869 = .ok (.aload_n 0, 1) := by decide +kernel
theorem dL_law_870 : decode cL_law 870 = .ok (.iload_n 3, 1) := by decide +kernel
theorem dL_law_871 : decode cL_law 871 = .ok (.iconst 1, 1) := by decide +kernel
theorem dL_law_872 : decode cL_law 872 = .ok (.iadd, 1) := by decide +kernel
theorem dL_law_873 : decode cL_law 873 = .ok (.iaload, 1) := by decide +kernel
theorem dL_law_874 : decode cL_law 874 = .ok (.invokevirtual 124, 3) := by decide +kernel
theorem dL_law_877 : decode cL_law 877 = .ok (.if_icmp .eq 97, 3) := by decide +kernel
theorem dL_law_880 : decode cL_law 880 = .ok (.iconst 0, 1) := by decide +kernel
theorem dL_law_881 : decode cL_law 881 = .ok (.ireturn, 1) := by decide +kernel
theorem dL_law_882 : decode cL_law 882 = .ok (.aload_n 1, 1) := by decide +kernel
theorem dL_law_883 : decode cL_law 883 = .ok (.aload_n 0, 1) := by decide +kernel
theorem dL_law_884 : decode cL_law 884 = .ok (.iload_n 3, 1) := by decide +kernel
theorem dL_law_885 : decode cL_law 885 = .ok (.iconst 1, 1) := by decide +kernel
theorem dL_law_886 : decode cL_law 886 = .ok (.iadd, 1) := by decide +kernel
theorem dL_law_887 : decode cL_law 887 = .ok (.iaload, 1) := by decide +kernel
theorem dL_law_888 : decode cL_law 888 = .ok (.aload_n 0, 1) := by decide +kernel
theorem dL_law_889 : decode cL_law 889 = .ok (.iload_n 3, 1) := by decide +kernel
theorem dL_law_890 : decode cL_law 890 = .ok (.iconst 2, 1) := by decide +kernel
theorem dL_law_891 : decode cL_law 891 = .ok (.iadd, 1) := by decide +kernel
theorem dL_law_892 : decode cL_law 892 = .ok (.iaload, 1) := by decide +kernel
theorem dL_law_893 : decode cL_law 893 = .ok (.aload_n 0, 1) := by decide +kernel
theorem dL_law_894 : decode cL_law 894 = .ok (.iload_n 3, 1) := by decide +kernel
theorem dL_law_895 : decode cL_law 895 = .ok (.iconst 3, 1) := by decide +kernel
theorem dL_law_896 : decode cL_law 896 = .ok (.iadd, 1) := by decide +kernel
theorem dL_law_897 : decode cL_law 897 = .ok (.iaload, 1) := by decide +kernel
theorem dL_law_898 : decode cL_law 898 = .ok (.invokevirtual 125, 3) := by decide +kernel
theorem dL_law_901 : decode cL_law 901 = .ok (.aload_n 2, 1) := by decide +kernel
theorem dL_law_902 : decode cL_law 902 = .ok (.aload_n 0, 1) := by decide +kernel
theorem dL_law_903 : decode cL_law 903 = .ok (.iload_n 3, 1) := by decide +kernel
theorem dL_law_904 : decode cL_law 904 = .ok (.iconst 1, 1) := by decide +kernel
theorem dL_law_905 : decode cL_law 905 = .ok (.iadd, 1) := by decide +kernel
theorem dL_law_906 : decode cL_law 906 = .ok (.iaload, 1) := by decide +kernel
theorem dL_law_907 : decode cL_law 907 = .ok (.aload_n 0, 1) := by decide +kernel
theorem dL_law_908 : decode cL_law 908 = .ok (.iload_n 3, 1) := by decide +kernel
theorem dL_law_909 : decode cL_law 909 = .ok (.iconst 2, 1) := by decide +kernel
theorem dL_law_910 : decode cL_law 910 = .ok (.iadd, 1) := by decide +kernel
theorem dL_law_911 : decode cL_law 911 = .ok (.iaload, 1) := by decide +kernel
theorem dL_law_912 : decode cL_law 912 = .ok (.aload_n 0, 1) := by decide +kernel
theorem dL_law_913 : decode cL_law 913 = .ok (.iload_n 3, 1) := by decide +kernel
theorem dL_law_914 : decode cL_law 914 = .ok (.iconst 3, 1) := by decide +kernel
theorem dL_law_915 : decode cL_law 915 = .ok (.iadd, 1) := by decide +kernel
theorem dL_law_916 : decode cL_law 916 = .ok (.iaload, 1) := by decide +kernel
theorem dL_law_917 : decode cL_law 917 = .ok (.invokevirtual 128, 3) := by decide +kernel
theorem dL_law_920 : decode cL_law 920 = .ok (.if_icmp .eq 54, 3) := by decide +kernel
theorem dL_law_923 : decode cL_law 923 = .ok (.iconst 0, 1) := by decide +kernel
theorem dL_law_924 : decode cL_law 924 = .ok (.ireturn, 1) := by decide +kernel
theorem dL_law_925 : decode cL_law 925 = .ok (.aload_n 1, 1) := by decide +kernel
theorem dL_law_926 : decode cL_law 926 = .ok (.invokevirtual 129, 3) := by decide +kernel
theorem dL_law_929 : decode cL_law 929 = .ok (.aload_n 2, 1) := by decide +kernel
theorem dL_law_930 : decode cL_law 930 = .ok (.invokevirtual 132, 3) := by decide +kernel
theorem dL_law_933 : decode cL_law 933 = .ok (.if_icmp .eq 41, 3) := by decide +kernel
theorem dL_law_936 : decode cL_law 936 = .ok (.iconst 0, 1) := by decide +kernel
theorem dL_law_937 : decode cL_law 937 = .ok (.ireturn, 1) := by decide +kernel
theorem dL_law_938 : decode cL_law 938 = .ok (.aload_n 1, 1) := by decide +kernel
theorem dL_law_939 : decode cL_law 939 = .ok (.invokevirtual 133, 3) := by decide +kernel
theorem dL_law_942 : decode cL_law 942 = .ok (.aload_n 2, 1) := by decide +kernel
theorem dL_law_943 : decode cL_law 943 = .ok (.invokevirtual 136, 3) := by decide +kernel
theorem dL_law_946 : decode cL_law 946 = .ok (.if_icmp .eq 28, 3) := by decide +kernel
theorem dL_law_949 : decode cL_law 949 = .ok (.iconst 0, 1) := by decide +kernel
theorem dL_law_950 : decode cL_law 950 = .ok (.ireturn, 1) := by decide +kernel
theorem dL_law_951 : decode cL_law 951 = .ok (.aload_n 1, 1) := by decide +kernel
theorem dL_law_952 : decode cL_law 952 = .ok (.aload_n 0, 1) := by decide +kernel
theorem dL_law_953 : decode cL_law 953 = .ok (.iload_n 3, 1) := by decide +kernel
theorem dL_law_954 : decode cL_law 954 = .ok (.iconst 1, 1) := by decide +kernel
theorem dL_law_955 : decode cL_law 955 = .ok (.iadd, 1) := by decide +kernel
theorem dL_law_956 : decode cL_law 956 = .ok (.iaload, 1) := by decide +kernel
theorem dL_law_957 : decode cL_law 957 = .ok (.invokevirtual 137, 3) := by decide +kernel
theorem dL_law_960 : decode cL_law 960 = .ok (.aload_n 2, 1) := by decide +kernel
theorem dL_law_961 : decode cL_law 961 = .ok (.aload_n 0, 1) := by decide +kernel
theorem dL_law_962 : decode cL_law 962 = .ok (.iload_n 3, 1) := by decide +kernel
theorem dL_law_963 : decode cL_law 963 = .ok (.iconst 1, 1) := by decide +kernel
theorem dL_law_964 : decode cL_law 964 = .ok (.iadd, 1) := by decide +kernel
theorem dL_law_965 : decode cL_law 965 = .ok (.iaload, 1) := by decide +kernel
theorem dL_law_966 : decode cL_law 966 = .ok (.invokevirtual 140, 3) := by decide +kernel
theorem dL_law_969 : decode cL_law 969 = .ok (.if_icmp .eq 5, 3) := by decide +kernel
theorem dL_law_972 : decode cL_law 972 = .ok (.iconst 0, 1) := by decide +kernel
theorem dL_law_973 : decode cL_law 973 = .ok (.ireturn, 1) := by decide +kernel
theorem dL_law_974 : decode cL_law 974 = .ok (.iinc 3 4, 3) := by decide +kernel
theorem dL_law_977 : decode cL_law 977 = .ok (.goto (-959), 3) := by decide +kernel
theorem dL_law_980 : decode cL_law 980 = .ok (.iconst 1, 1) := by decide +kernel
theorem dL_law_981 : decode cL_law 981 = .ok (.ireturn, 1) := by decide +kernel
