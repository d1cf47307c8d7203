theorem dX10_takeDish_45 : decode cX10_takeDish 45 = .ok (.aload_n 0, 1) := by decide +kernel
theorem dX10_takeDish_46 : decode cX10_takeDish 46 = .ok (.dup, 1) := by decide +kernel
theorem dX10_takeDish_47 : decode cX10_takeDish 47 = .ok (.getfield 61, 3) := by decide +kernel
theorem dX10_takeDish_50 : decode cX10_takeDish 50 = .ok (.iconst 1, 1) := by decide +kernel
theorem dX10_takeDish_51 : decode cX10_takeDish 51 = .ok (.iadd, 1) := by decide +kernel
theorem dX10_takeDish_52 : decode cX10_takeDish 52 = .ok (.putfield 61, 3) := by decide +kernel
theorem dX10_takeDish_55 : decode cX10_takeDish 55 = .ok (.iconst 1, 1) := by decide +kernel
theorem dX10_takeDish_56 : decode cX10_takeDish 56 = .ok (.ireturn, 1) := by decide +kernel
theorem dX10_takeEater_0 : decode cX10_takeEater 0 = .ok (.aload_n 1, 1) := by decide +kernel
theorem dX10_takeEater_1 : decode cX10_takeEater 1 = .ok (.getfield 95, 3) := by decide +kernel
theorem dX10_takeEater_4 : decode cX10_takeEater 4 = .ok (.iconst 1, 1) := by decide +kernel
theorem dX10_takeEater_5 : decode cX10_takeEater 5 = .ok (.if_icmp .ne 22, 3) := by decide +kernel
theorem dX10_takeEater_8 : decode cX10_takeEater 8 = .ok (.aload_n 1, 1) := by decide +kernel
theorem dX10_takeEater_9 : decode cX10_takeEater 9 = .ok (.iconst 0, 1) := by decide +kernel
theorem dX10_takeEater_10 : decode cX10_takeEater 10 = .ok (.iconst 0, 1) := by decide +kernel
theorem dX10_takeEater_11 : decode cX10_takeEater 11 = .ok (.bipush 15, 2) := by decide +kernel
theorem dX10_takeEater_13 : decode cX10_takeEater 13 = .ok (.invokevirtual 98, 3) := by decide +kernel
theorem dX10_takeEater_16 : decode cX10_takeEater 16 = .ok (.ifCond .eq 11, 3) := by decide +kernel
theorem dX10_takeEater_19 : decode cX10_takeEater 19 = .ok (.aload_n 0, 1) := by decide +kernel
theorem dX10_takeEater_20 : decode cX10_takeEater 20 = .ok (.getfield 64, 3) := by decide +kernel
theorem dX10_takeEater_23 : decode cX10_takeEater 23 = .ok (.iconst 4, 1) := by decide +kernel
theorem dX10_takeEater_24 : decode cX10_takeEater 24 = .ok (.if_icmp .lt 5, 3) := by decide +kernel
theorem dX10_takeEater_27 : decode cX10_takeEater 27 = .ok (.iconst 0, 1) := by decide +kernel
theorem dX10_takeEater_28 : decode cX10_takeEater 28 = .ok (.ireturn, 1) := by decide +kernel
theorem dX10_takeEater_29 : decode cX10_takeEater 29 = .ok (.aload_n 0, 1) := by decide +kernel
theorem dX10_takeEater_30 : decode cX10_takeEater 30 = .ok (.getfield 29, 3) := by decide +kernel
theorem dX10_takeEater_33 : decode cX10_takeEater 33 = .ok (.aload_n 0, 1) := by decide +kernel
theorem dX10_takeEater_34 : decode cX10_takeEater 34 = .ok (.getfield 64, 3) := by decide +kernel
theorem dX10_takeEater_37 : decode cX10_takeEater 37 = .ok (.aload_n 1, 1) := by decide +kernel
theorem dX10_takeEater_38 : decode cX10_takeEater 38 = .ok (.iconst 0, 1) := by decide +kernel
theorem dX10_takeEater_39 : decode cX10_takeEater 39 = .ok (.invokevirtual 102, 3) := by decide +kernel
theorem dX10_takeEater_42 : decode cX10_takeEater 42 = .ok (.invokestatic 119, 3) := by decide +kernel
theorem dX10_takeEater_45 : decode cX10_takeEater 45 = .ok (.aload_n 0, 1) := by decide +kernel
theorem dX10_takeEater_46 : decode cX10_takeEater 46 = .ok (.dup, 1) := by decide +kernel
theorem dX10_takeEater_47 : decode cX10_takeEater 47 = .ok (.getfield 64, 3) := by decide +kernel
theorem dX10_takeEater_50 : decode cX10_takeEater 50 = .ok (.iconst 1, 1) := by decide +kernel
theorem dX10_takeEater_51 : decode cX10_takeEater 51 = .ok (.iadd, 1) := by decide +kernel
theorem dX10_takeEater_52 : decode cX10_takeEater 52 = .ok (.putfield 64, 3) := by decide +kernel
theorem dX10_takeEater_55 : decode cX10_takeEater 55 = .ok (.iconst 1, 1) := by decide +kernel
theorem dX10_takeEater_56 : decode cX10_takeEater 56 = .ok (.ireturn, 1) := by decide +kernel
theorem dX10_takeGuests_0 : decode cX10_takeGuests 0 = .ok (.aload_n 1, 1) := by decide +kernel
theorem dX10_takeGuests_1 : decode cX10_takeGuests 1 = .ok (.getfield 95, 3) := by decide +kernel
theorem dX10_takeGuests_4 : decode cX10_takeGuests 4 = .ok (.iconst 2, 1) := by decide +kernel
theorem dX10_takeGuests_5 : decode cX10_takeGuests 5 = .ok (.if_icmp .ne 49, 3) := by decide +kernel
theorem dX10_takeGuests_8 : decode cX10_takeGuests 8 = .ok (.aload_n 1, 1) := by decide +kernel
theorem dX10_takeGuests_9 : decode cX10_takeGuests 9 = .ok (.iconst 0, 1) := by decide +kernel
theorem dX10_takeGuests_10 : decode cX10_takeGuests 10 = .ok (.iconst 0, 1) := by decide +kernel
theorem dX10_takeGuests_11 : decode cX10_takeGuests 11 = .ok (.bipush 9, 2) := by decide +kernel
theorem dX10_takeGuests_13 : decode cX10_takeGuests 13 = .ok (.invokevirtual 98, 3) := by decide +kernel
theorem dX10_takeGuests_16 : decode cX10_takeGuests 16 = .ok (.ifCond .eq 38, 3) := by decide +kernel
theorem dX10_takeGuests_19 : decode cX10_takeGuests 19 = .ok (.aload_n 1, 1) := by decide +kernel
theorem dX10_takeGuests_20 : decode cX10_takeGuests 20 = .ok (.iconst 1, 1) := by decide +kernel
theorem dX10_takeGuests_21 : decode cX10_takeGuests 21 = .ok (.iconst 1, 1) := by decide +kernel
theorem dX10_takeGuests_22 : decode cX10_takeGuests 22 = .ok (.bipush 99, 2) := by decide +kernel
theorem dX10_takeGuests_24 : decode cX10_takeGuests 24 = .ok (.invokevirtual 98, 3) := by decide +kernel
theorem dX10_takeGuests_27 : decode cX10_takeGuests 27 = .ok (.ifCond .eq 27, 3) := by decide +kernel
theorem dX10_takeGuests_30 : decode cX10_takeGuests 30 = .ok (.aload_n 0, 1) := by decide +kernel
theorem dX10_takeGuests_31 : decode cX10_takeGuests 31 = .ok (.getfield 35, 3) := by decide +kernel
theorem dX10_takeGuests_34 : decode cX10_takeGuests 34 = .ok (.aload_n 1, 1) := by decide +kernel
theorem dX10_takeGuests_35 : decode cX10_takeGuests 35 = .ok (.iconst 0, 1) := by decide +kernel
theorem dX10_takeGuests_36 : decode cX10_takeGuests 36 = .ok (.invokevirtual 102, 3) := by decide +kernel
theorem dX10_takeGuests_39 : decode cX10_takeGuests 39 = .ok (.aload_n 1, 1) := by decide +kernel
theorem dX10_takeGuests_40 : decode cX10_takeGuests 40 = .ok (.iconst 1, 1) := by decide +kernel
theorem dX10_takeGuests_41 : decode cX10_takeGuests 41 = .ok (.invokevirtual 102, 3) := by decide +kernel
theorem dX10_takeGuests_44 : decode cX10_takeGuests 44 = .ok (.invokevirtual 123, 3) := by decide +kernel
theorem dX10_takeGuests_47 : decode cX10_takeGuests 47 = .ok (.ifCond .eq 7, 3) := by decide +kernel
theorem dX10_takeGuests_50 : decode cX10_takeGuests 50 = .ok (.iconst 1, 1) := by decide +kernel
theorem dX10_takeGuests_51 : decode cX10_takeGuests 51 = .ok (.goto 4, 3) := by decide +kernel
theorem dX10_takeGuests_54 : decode cX10_takeGuests 54 = .ok (.iconst 0, 1) := by decide +kernel
theorem dX10_takeGuests_55 : decode cX10_takeGuests 55 = .ok (.ireturn, 1) := by decide +kernel
theorem dX10_takePacks_0 : decode cX10_takePacks 0 = .ok (.aload_n 1, 1) := by decide +kernel
theorem dX10_takePacks_1 : decode cX10_takePacks 1 = .ok (.getfield 95, 3) := by decide +kernel
theorem dX10_takePacks_4 : decode cX10_takePacks 4 = .ok (.iconst 2, 1) := by decide +kernel
theorem dX10_takePacks_5 : decode cX10_takePacks 5 = .ok (.if_icmp .ne 26, 3) := by decide +kernel
theorem dX10_takePacks_8 : decode cX10_takePacks 8 = .ok (.aload_n 1, 1) := by decide +kernel
theorem dX10_takePacks_9 : decode cX10_takePacks 9 = .ok (.iconst 0, 1) := by decide +kernel
theorem dX10_takePacks_10 : decode cX10_takePacks 10 = .ok (.iconst 1, 1) := by decide +kernel
theorem dX10_takePacks_11 : decode cX10_takePacks 11 = .ok (.bipush 99, 2) := by decide +kernel
theorem dX10_takePacks_13 : decode cX10_takePacks 13 = .ok (.invokevirtual 98, 3) := by decide +kernel
theorem dX10_takePacks_16 : decode cX10_takePacks 16 = .ok (.ifCond .eq 15, 3) := by decide +kernel
theorem dX10_takePacks_19 : decode cX10_takePacks 19 = .ok (.aload_n 1, 1) := by decide +kernel
theorem dX10_takePacks_20 : decode cX10_takePacks 20 = .ok (.iconst 1, 1) := by decide +kernel
theorem dX10_takePacks_21 : decode cX10_takePacks 21 = .ok (.iconst 1, 1) := by decide +kernel
theorem dX10_takePacks_22 : decode cX10_takePacks 22 = .ok (.sipush 198, 3) := by decide +kernel
theorem dX10_takePacks_25 : decode cX10_takePacks 25 = .ok (.invokevirtual 98, 3) := by decide +kernel
theorem dX10_takePacks_28 : decode cX10_takePacks 28 = .ok (.ifCond .ne 5, 3) := by decide +kernel
theorem dX10_takePacks_31 : decode cX10_takePacks 31 = .ok (.iconst 0, 1) := by decide +kernel
theorem dX10_takePacks_32 : decode cX10_takePacks 32 = .ok (.ireturn, 1) := by decide +kernel
theorem dX10_takePacks_33 : decode cX10_takePacks 33 = .ok (.aload_n 0, 1) := by decide +kernel
theorem dX10_takePacks_34 : decode cX10_takePacks 34 = .ok (.getfield 35, 3) := by decide +kernel
theorem dX10_takePacks_37 : decode cX10_takePacks 37 = .ok (.aload_n 1, 1) := by decide +kernel
theorem dX10_takePacks_38 : decode cX10_takePacks 38 = .ok (.iconst 0, 1) := by decide +kernel
theorem dX10_takePacks_39 : decode cX10_takePacks 39 = .ok (.invokevirtual 102, 3) := by decide +kernel
theorem dX10_takePacks_42 : decode cX10_takePacks 42 = .ok (.putfield 126, 3) := by decide +kernel
theorem dX10_takePacks_45 : decode cX10_takePacks 45 = .ok (.aload_n 0, 1) := by decide +kernel
theorem dX10_takePacks_46 : decode cX10_takePacks 46 = .ok (.getfield 35, 3) := by decide +kernel
theorem dX10_takePacks_49 : decode cX10_takePacks 49 = .ok (.aload_n 1, 1) := by decide +kernel
theorem dX10_takePacks_50 : decode cX10_takePacks 50 = .ok (.iconst 1, 1) := by decide +kernel
theorem dX10_takePacks_51 : decode cX10_takePacks 51 = .ok (.invokevirtual 102, 3) := by decide +kernel
theorem dX10_takePacks_54 : decode cX10_takePacks 54 = .ok (.putfield 129, 3) := by decide +kernel
theorem dX10_takePacks_57 : decode cX10_takePacks 57 = .ok (.iconst 1, 1) := by decide +kernel
theorem dX10_takePacks_58 : decode cX10_takePacks 58 = .ok (.ireturn, 1) := by decide +kernel
theorem dX10_takeSlip_0 : decode cX10_takeSlip 0 = .ok (.aload_n 1, 1) := by decide +kernel
theorem dX10_takeSlip_1 : decode cX10_takeSlip 1 = .ok (.getfield 95, 3) := by decide +kernel
theorem dX10_takeSlip_4 : decode cX10_takeSlip 4 = .ok (.iconst 1, 1) := by decide +kernel
theorem dX10_takeSlip_5 : decode cX10_takeSlip 5 = .ok (.if_icmp .ne 13, 3) := by decide +kernel
theorem dX10_takeSlip_8 : decode cX10_takeSlip 8 = .ok (.aload_n 1, 1) := by decide +kernel
theorem dX10_takeSlip_9 : decode cX10_takeSlip 9 = .ok (.iconst 0, 1) := by decide +kernel
theorem dX10_takeSlip_10 : decode cX10_takeSlip 10 = .ok (.iconst 0, 1) := by decide +kernel
theorem dX10_takeSlip_11 : decode cX10_takeSlip 11 = .ok (.iconst 4, 1) := by decide +kernel
theorem dX10_takeSlip_12 : decode cX10_takeSlip 12 = .ok (.invokevirtual 98, 3) := by decide +kernel
theorem dX10_takeSlip_15 : decode cX10_takeSlip 15 = .ok (.ifCond .ne 5, 3) := by decide +kernel
theorem dX10_takeSlip_18 : decode cX10_takeSlip 18 = .ok (.iconst 0, 1) := by decide +kernel
theorem dX10_takeSlip_19 : decode cX10_takeSlip 19 = .ok (.ireturn, 1) := by decide +kernel
theorem dX10_takeSlip_20 : decode cX10_takeSlip 20 = .ok (.aload_n 0, 1) := by decide +kernel
theorem dX10_takeSlip_21 : decode cX10_takeSlip 21 = .ok (.aload_n 1, 1) := by decide +kernel
theorem dX10_takeSlip_22 : decode cX10_takeSlip 22 = .ok (.iconst 0, 1) := by decide +kernel
theorem dX10_takeSlip_23 : decode cX10_takeSlip 23 = .ok (.invokevirtual 102, 3) := by decide +kernel
theorem dX10_takeSlip_26 : decode cX10_takeSlip 26 = .ok (.putfield 39, 3) := by decide +kernel
theorem dX10_takeSlip_29 : decode cX10_takeSlip 29 = .ok (.iconst 1, 1) := by decide +kernel
theorem dX10_takeSlip_30 : decode cX10_takeSlip 30 = .ok (.ireturn, 1) := by decide +kernel
theorem dX10_canBeLaid_0 : decode cX10_canBeLaid 0 = .ok (.iconst 0, 1) := by decide +kernel
theorem dX10_canBeLaid_1 : decode cX10_canBeLaid 1 = .ok (.istore_n 1, 1) := by decide +kernel
theorem dX10_canBeLaid_2 : decode cX10_canBeLaid 2 = .ok (.iload_n 1, 1) := by decide +kernel
theorem dX10_canBeLaid_3 : decode cX10_canBeLaid 3 = .ok (.aload_n 0, 1) := by decide +kernel
theorem dX10_canBeLaid_4 : decode cX10_canBeLaid 4 = .ok (.getfield 12, 3) := by decide +kernel
theorem dX10_canBeLaid_7 : decode cX10_canBeLaid 7 = .ok (.getfield 132, 3) := by decide +kernel
theorem dX10_canBeLaid_10 : decode cX10_canBeLaid 10 = .ok (.if_icmp .ge 30, 3) := by decide +kernel
theorem dX10_canBeLaid_13 : decode cX10_canBeLaid 13 = .ok (.aload_n 0, 1) := by decide +kernel
theorem dX10_canBeLaid_14 : decode cX10_canBeLaid 14 = .ok (.getfield 21, 3) := by decide +kernel
theorem dX10_canBeLaid_17 : decode cX10_canBeLaid 17 = .ok (.iload_n 1, 1) := by decide +kernel
theorem dX10_canBeLaid_18 : decode cX10_canBeLaid 18 = .ok (.invokevirtual 134, 3) := by decide +kernel
theorem dX10_canBeLaid_21 : decode cX10_canBeLaid 21 = .ok (.aload_n 0, 1) := by decide +kernel
theorem dX10_canBeLaid_22 : decode cX10_canBeLaid 22 = .ok (.getfield 12, 3) := by decide +kernel
theorem dX10_canBeLaid_25 : decode cX10_canBeLaid 25 = .ok (.iload_n 1, 1) := by decide +kernel
theorem dX10_canBeLaid_26 : decode cX10_canBeLaid 26 = .ok (.invokevirtual 137, 3) := by decide +kernel
theorem dX10_canBeLaid_29 : decode cX10_canBeLaid 29 = .ok (.if_icmp .le 5, 3) := by decide +kernel
theorem dX10_canBeLaid_32 : decode cX10_canBeLaid 32 = .ok (.iconst 0, 1) := by decide +kernel
theorem dX10_canBeLaid_33 : decode cX10_canBeLaid 33 = .ok (.ireturn, 1) := by decide +kernel
theorem dX10_canBeLaid_34 : decode cX10_canBeLaid 34 = .ok (.iinc 1 1, 3) := by decide +kernel
theorem dX10_canBeLaid_37 : decode cX10_canBeLaid 37 = .ok (.goto (-35), 3) := by decide +kernel
theorem dX10_canBeLaid_40 : decode cX10_canBeLaid 40 = .ok (.aload_n 0, 1) := by decide +kernel
theorem dX10_canBeLaid_41 : decode cX10_canBeLaid 41 = .ok (.getfield 12, 3) := by decide +kernel
theorem dX10_canBeLaid_44 : decode cX10_canBeLaid 44 = .ok (.getfield 132, 3) := by decide +kernel
theorem dX10_canBeLaid_47 : decode cX10_canBeLaid 47 = .ok (.ifCond .le 17, 3) := by decide +kernel
theorem dX10_canBeLaid_50 : decode cX10_canBeLaid 50 = .ok (.aload_n 0, 1) := by decide +kernel
theorem dX10_canBeLaid_51 : decode cX10_canBeLaid 51 = .ok (.getfield 21, 3) := by decide +kernel
theorem dX10_canBeLaid_54 : decode cX10_canBeLaid 54 = .ok (.getfield 140, 3) := by decide +kernel
theorem dX10_canBeLaid_57 : decode cX10_canBeLaid 57 = .ok (.ifCond .le 7, 3) := by decide +kernel
theorem dX10_canBeLaid_60 : decode cX10_canBeLaid 60 = .ok (.iconst 1, 1) := by decide +kernel
theorem dX10_canBeLaid_61 : decode cX10_canBeLaid 61 = .ok (.goto 4, 3) := by decide +kernel
theorem dX10_canBeLaid_64 : decode cX10_canBeLaid 64 = .ok (.iconst 0, 1) := by decide +kernel
theorem dX10_canBeLaid_65 : decode cX10_canBeLaid 65 = .ok (.ireturn, 1) := by decide +kernel
theorem dX10_sortsOfDish_0 : decode cX10_sortsOfDish 0 = .ok (.aload_n 0, 1) := by decide +kernel
theorem dX10_sortsOfDish_1 : decode cX10_sortsOfDish 1 = .ok (.getfield 25, 3) := by decide +kernel
theorem dX10_sortsOfDish_4 : decode cX10_sortsOfDish 4 = .ok (.iload_n 1, 1) := by decide +kernel
theorem dX10_sortsOfDish_5 : decode cX10_sortsOfDish 5 = .ok (.invokestatic 141, 3) := by decide +kernel
theorem dX10_sortsOfDish_8 : decode cX10_sortsOfDish 8 = .ok (.ireturn, 1) := by decide +kernel
theorem dX10_hungryWith_0 : decode cX10_hungryWith 0 = .ok (.iconst 0, 1) := by decide +kernel
theorem dX10_hungryWith_1 : decode cX10_hungryWith 1 = .ok (.istore_n 2, 1) := by decide +kernel
theorem dX10_hungryWith_2 : decode cX10_hungryWith 2 = .ok (.iconst 0, 1) := by decide +kernel
theorem dX10_hungryWith_3 : decode cX10_hungryWith 3 = .ok (.istore_n 3, 1) := by decide +kernel
theorem dX10_hungryWith_4 : decode cX10_hungryWith 4 = .ok (.iload_n 3, 1) := by decide +kernel
theorem dX10_hungryWith_5 : decode cX10_hungryWith 5 = .ok (.aload_n 0, 1) := by decide +kernel
theorem dX10_hungryWith_6 : decode cX10_hungryWith 6 = .ok (.getfield 64, 3) := by decide +kernel
theorem dX10_hungryWith_9 : decode cX10_hungryWith 9 = .ok (.if_icmp .ge 29, 3) := by decide +kernel
theorem dX10_hungryWith_12 : decode cX10_hungryWith 12 = .ok (.iload_n 1, 1) := by decide +kernel
theorem dX10_hungryWith_13 : decode cX10_hungryWith 13 = .ok (.ifCond .eq 16, 3) := by decide +kernel
theorem dX10_hungryWith_16 : decode cX10_hungryWith 16 = .ok (.aload_n 0, 1) := by decide +kernel
theorem dX10_hungryWith_17 : decode cX10_hungryWith 17 = .ok (.getfield 29, 3) := by decide +kernel
theorem dX10_hungryWith_20 : decode cX10_hungryWith 20 = .ok (.iload_n 3, 1) := by decide +kernel
theorem dX10_hungryWith_21 : decode cX10_hungryWith 21 = .ok (.invokestatic 141, 3) := by decide +kernel
theorem dX10_hungryWith_24 : decode cX10_hungryWith 24 = .ok (.iload_n 1, 1) := by decide +kernel
theorem dX10_hungryWith_25 : decode cX10_hungryWith 25 = .ok (.iand, 1) := by decide +kernel
theorem dX10_hungryWith_26 : decode cX10_hungryWith 26 = .ok (.ifCond .eq 6, 3) := by decide +kernel
theorem dX10_hungryWith_29 : decode cX10_hungryWith 29 = .ok (.iinc 2 1, 3) := by decide +kernel
theorem dX10_hungryWith_32 : decode cX10_hungryWith 32 = .ok (.iinc 3 1, 3) := by decide +kernel
theorem dX10_hungryWith_35 : decode cX10_hungryWith 35 = .ok (.goto (-31), 3) := by decide +kernel
theorem dX10_hungryWith_38 : decode cX10_hungryWith 38 = .ok (.iload_n 2, 1) := by decide +kernel
theorem dX10_hungryWith_39 : decode cX10_hungryWith 39 = .ok (.ireturn, 1) := by decide +kernel
theorem dX11_init_0 : decode cX11_init 0 = .ok (.aload_n 0, 1) := by decide +kernel
theorem dX11_init_1 : decode cX11_init 1 = .ok (.invokespecial 1, 3) := by decide +kernel
theorem dX11_init_4 : decode cX11_init 4 = .ok (.aload_n 0, 1) := by decide +kernel
theorem dX11_init_5 : decode cX11_init 5 = .ok (.new 7, 3) := by decide +kernel
theorem dX11_init_8 : decode cX11_init 8 = .ok (.dup, 1) := by decide +kernel
theorem dX11_init_9 : decode cX11_init 9 = .ok (.invokespecial 9, 3) := by decide +kernel
theorem dX11_init_12 : decode cX11_init 12 = .ok (.putfield 10, 3) := by decide +kernel
theorem dX11_init_15 : decode cX11_init 15 = .ok (.aload_n 0, 1) := by decide +kernel
theorem dX11_init_16 : decode cX11_init 16 = .ok (.new 16, 3) := by decide +kernel
theorem dX11_init_19 : decode cX11_init 19 = .ok (.dup, 1) := by decide +kernel
theorem dX11_init_20 : decode cX11_init 20 = .ok (.invokespecial 18, 3) := by decide +kernel
theorem dX11_init_23 : decode cX11_init 23 = .ok (.putfield 19, 3) := by decide +kernel
theorem dX11_init_26 : decode cX11_init 26 = .ok (.aload_n 0, 1) := by decide +kernel
theorem dX11_init_27 : decode cX11_init 27 = .ok (.new 16, 3) := by decide +kernel
theorem dX11_init_30 : decode cX11_init 30 = .ok (.dup, 1) := by decide +kernel
theorem dX11_init_31 : decode cX11_init 31 = .ok (.invokespecial 18, 3) := by decide +kernel
theorem dX11_init_34 : decode cX11_init 34 = .ok (.putfield 23, 3) := by decide +kernel
theorem dX11_init_37 : decode cX11_init 37 = .ok (.aload_n 0, 1) := by decide +kernel
theorem dX11_init_38 : decode cX11_init 38 = .ok (.new 26, 3) := by decide +kernel
theorem dX11_init_41 : decode cX11_init 41 = .ok (.dup, 1) := by decide +kernel
theorem dX11_init_42 : decode cX11_init 42 = .ok (.invokespecial 28, 3) := by decide +kernel
theorem dX11_init_45 : decode cX11_init 45 = .ok (.putfield 29, 3) := by decide +kernel
theorem dX11_init_48 : decode cX11_init 48 = .ok (.aload_n 0, 1) := by decide +kernel
theorem dX11_init_49 : decode cX11_init 49 = .ok (.new 26, 3) := by decide +kernel
theorem dX11_init_52 : decode cX11_init 52 = .ok (.dup, 1) := by decide +kernel
theorem dX11_init_53 : decode cX11_init 53 = .ok (.invokespecial 28, 3) := by decide +kernel
theorem dX11_init_56 : decode cX11_init 56 = .ok (.putfield 33, 3) := by decide +kernel
theorem dX11_init_59 : decode cX11_init 59 = .ok (.aload_n 0, 1) := by decide +kernel
theorem dX11_init_60 : decode cX11_init 60 = .ok (.new 26, 3) := by decide +kernel
theorem dX11_init_63 : decode cX11_init 63 = .ok (.dup, 1) := by decide +kernel
theorem dX11_init_64 : decode cX11_init 64 = .ok (.invokespecial 28, 3) := by decide +kernel
theorem dX11_init_67 : decode cX11_init 67 = .ok (.putfield 36, 3) := by decide +kernel
theorem dX11_init_70 : decode cX11_init 70 = .ok (.aload_n 0, 1) := by decide +kernel
theorem dX11_init_71 : decode cX11_init 71 = .ok (.new 39, 3) := by decide +kernel
theorem dX11_init_74 : decode cX11_init 74 = .ok (.dup, 1) := by decide +kernel
theorem dX11_init_75 : decode cX11_init 75 = .ok (.aload_n 0, 1) := by decide +kernel
theorem dX11_init_76 : decode cX11_init 76 = .ok (.getfield 23, 3) := by decide +kernel
theorem dX11_init_79 : decode cX11_init 79 = .ok (.aload_n 0, 1) := by decide +kernel
theorem dX11_init_80 : decode cX11_init 80 = .ok (.getfield 29, 3) := by decide +kernel
theorem dX11_init_83 : decode cX11_init 83 = .ok (.invokespecial 41, 3) := by decide +kernel
theorem dX11_init_86 : decode cX11_init 86 = .ok (.putfield 44, 3) := by decide +kernel
theorem dX11_init_89 : decode cX11_init 89 = .ok (.aload_n 0, 1) := by decide +kernel
theorem dX11_init_90 : decode cX11_init 90 = .ok (.new 48, 3) := by decide +kernel
theorem dX11_init_93 : decode cX11_init 93 = .ok (.dup, 1) := by decide +kernel
theorem dX11_init_94 : decode cX11_init 94 = .ok (.aload_n 0, 1) := by decide +kernel
theorem dX11_init_95 : decode cX11_init 95 = .ok (.getfield 44, 3) := by decide +kernel
theorem dX11_init_98 : decode cX11_init 98 = .ok (.invokespecial 50, 3) := by decide +kernel
theorem dX11_init_101 : decode cX11_init 101 = .ok (.putfield 53, 3) := by decide +kernel
theorem dX11_init_104 : decode cX11_init 104 = .ok (.aload_n 0, 1) := by decide +kernel
theorem dX11_init_105 : decode cX11_init 105 = .ok (.new 57, 3) := by decide +kernel
theorem dX11_init_108 : decode cX11_init 108 = .ok (.dup, 1) := by decide +kernel
theorem dX11_init_109 : decode cX11_init 109 = .ok (.aload_n 0, 1) := by decide +kernel
theorem dX11_init_110 : decode cX11_init 110 = .ok (.getfield 44, 3) := by decide +kernel
theorem dX11_init_113 : decode cX11_init 113 = .ok (.aload_n 0, 1) := by decide +kernel
theorem dX11_init_114 : decode cX11_init 114 = .ok (.getfield 53, 3) := by decide +kernel
theorem dX11_init_117 : decode cX11_init 117 = .ok (.invokespecial 59, 3) := by decide +kernel
theorem dX11_init_120 : decode cX11_init 120 = .ok (.putfield 62, 3) := by decide +kernel
theorem dX11_init_123 : decode cX11_init 123 = .ok (.aload_n 0, 1) := by decide +kernel
theorem dX11_init_124 : decode cX11_init 124 = .ok (.new 66, 3) := by decide +kernel
theorem dX11_init_127 : decode cX11_init 127 = .ok (.dup, 1) := by decide +kernel
theorem dX11_init_128 : decode cX11_init 128 = .ok (.aload_n 0, 1) := by decide +kernel
theorem dX11_init_129 : decode cX11_init 129 = .ok (.getfield 44, 3) := by decide +kernel
theorem dX11_init_132 : decode cX11_init 132 = .ok (.invokespecial 68, 3) := by decide +kernel
theorem dX11_init_135 : decode cX11_init 135 = .ok (.putfield 69, 3) := by decide +kernel
theorem dX11_init_138 : decode cX11_init 138 = .ok (.aload_n 0, 1) := by decide +kernel
theorem dX11_init_139 : decode cX11_init 139 = .ok (.new 73, 3) := by decide +kernel
theorem dX11_init_142 : decode cX11_init 142 = .ok (.dup, 1) := by decide +kernel
theorem dX11_init_143 : decode cX11_init 143 = .ok (.invokespecial 75, 3) := by decide +kernel
theorem dX11_init_146 : decode cX11_init 146 = .ok (.putfield 76, 3) := by decide +kernel
theorem dX11_init_149 : decode cX11_init 149 = .ok (.aload_n 0, 1) := by decide +kernel
theorem dX11_init_150 : decode cX11_init 150 = .ok (.getfield 23, 3) := by decide +kernel
theorem dX11_init_153 : decode cX11_init 153 = .ok (.getfield 80, 3) := by decide +kernel
theorem dX11_init_156 : decode cX11_init 156 = .ok (.bipush 40, 2) := by decide +kernel
theorem dX11_init_158 : decode cX11_init 158 = .ok (.iconst 5, 1) := by decide +kernel
theorem dX11_init_159 : decode cX11_init 159 = .ok (.bipush 10, 2) := by decide +kernel
theorem dX11_init_161 : decode cX11_init 161 = .ok (.invokevirtual 84, 3) := by decide +kernel
theorem dX11_init_164 : decode cX11_init 164 = .ok (.pop, 1) := by decide +kernel
theorem dX11_init_165 : decode cX11_init 165 = .ok (.aload_n 0, 1) := by decide +kernel
theorem dX11_init_166 : decode cX11_init 166 = .ok (.getfield 23, 3) := by decide +kernel
theorem dX11_init_169 : decode cX11_init 169 = .ok (.getfield 90, 3) := by decide +kernel
theorem dX11_init_172 : decode cX11_init 172 = .ok (.iconst 0, 1) := by decide +kernel
theorem dX11_init_173 : decode cX11_init 173 = .ok (.iconst 0, 1) := by decide +kernel
theorem dX11_init_174 : decode cX11_init 174 = .ok (.bipush 9, 2) := by decide +kernel
theorem dX11_init_176 : decode cX11_init 176 = .ok (.bipush 48, 2) := by decide +kernel
theorem dX11_init_178 : decode cX11_init 178 = .ok (.iconst 3, 1) := by decide +kernel
theorem dX11_init_179 : decode cX11_init 179 = .ok (.iconst 0, 1) := by decide +kernel
theorem dX11_init_180 : decode cX11_init 180 = .ok (.invokevirtual 94, 3) := by decide +kernel
theorem dX11_init_183 : decode cX11_init 183 = .ok (.pop, 1) := by decide +kernel
theorem dX11_init_184 : decode cX11_init 184 = .ok (.aload_n 0, 1) := by decide +kernel
theorem dX11_init_185 : decode cX11_init 185 = .ok (.getfield 29, 3) := by decide +kernel
theorem dX11_init_188 : decode cX11_init 188 = .ok (.aload_n 0, 1) := by decide +kernel
theorem dX11_init_189 : decode cX11_init 189 = .ok (.getfield 23, 3) := by decide +kernel
theorem dX11_init_192 : decode cX11_init 192 = .ok (.getfield 90, 3) := by decide +kernel
theorem dX11_init_195 : decode cX11_init 195 = .ok (.invokevirtual 99, 3) := by decide +kernel
theorem dX11_init_198 : decode cX11_init 198 = .ok (.return_, 1) := by decide +kernel
theorem dX11_write_0 : decode cX11_write 0 = .ok (.iload_n 1, 1) := by decide +kernel
theorem dX11_write_1 : decode cX11_write 1 = .ok (.iconst 1, 1) := by decide +kernel
theorem dX11_write_2 : decode cX11_write 2 = .ok (.bipush 8, 2) := by decide +kernel
theorem dX11_write_4 : decode cX11_write 4 = .ok (.invokestatic 103, 3) := by decide +kernel
theorem dX11_write_7 : decode cX11_write 7 = .ok (.ifCond .ne 5, 3) := by decide +kernel
theorem dX11_write_10 : decode cX11_write 10 = .ok (.iconst (-1), 1) := by decide +kernel
theorem dX11_write_11 : decode cX11_write 11 = .ok (.ireturn, 1) := by decide +kernel
theorem dX11_write_12 : decode cX11_write 12 = .ok (.aload_n 0, 1) := by decide +kernel
theorem dX11_write_13 : decode cX11_write 13 = .ok (.getfield 10, 3) := by decide +kernel
theorem dX11_write_16 : decode cX11_write 16 = .ok (.iload_n 1, 1) := by decide +kernel
theorem dX11_write_17 : decode cX11_write 17 = .ok (.lload_n 2, 1) := by decide +kernel
theorem dX11_write_18 : decode cX11_write 18 = .ok (.invokevirtual 106, 3) := by decide +kernel
theorem dX11_write_21 : decode cX11_write 21 = .ok (.ifCond .eq 13, 3) := by decide +kernel
theorem dX11_write_24 : decode cX11_write 24 = .ok (.aload_n 0, 1) := by decide +kernel
theorem dX11_write_25 : decode cX11_write 25 = .ok (.getfield 10, 3) := by decide +kernel
theorem dX11_write_28 : decode cX11_write 28 = .ok (.getfield 110, 3) := by decide +kernel
theorem dX11_write_31 : decode cX11_write 31 = .ok (.goto 5, 3) := by decide +kernel
theorem dX11_write_34 : decode cX11_write 34 = .ok (.bipush (-3), 2) := by decide +kernel
theorem dX11_write_36 : decode cX11_write 36 = .ok (.ireturn, 1) := by decide +kernel
theorem dX11_wipe_0 : decode cX11_wipe 0 = .ok (.aload_n 0, 1) := by decide +kernel
theorem dX11_wipe_1 : decode cX11_wipe 1 = .ok (.getfield 10, 3) := by decide +kernel
theorem dX11_wipe_4 : decode cX11_wipe 4 = .ok (.getfield 110, 3) := by decide +kernel
theorem dX11_wipe_7 : decode cX11_wipe 7 = .ok (.istore_n 1, 1) := by decide +kernel
theorem dX11_wipe_8 : decode cX11_wipe 8 = .ok (.aload_n 0, 1) := by decide +kernel
theorem dX11_wipe_9 : decode cX11_wipe 9 = .ok (.getfield 10, 3) := by decide +kernel
theorem dX11_wipe_12 : decode cX11_wipe 12 = .ok (.iconst 0, 1) := by decide +kernel
theorem dX11_wipe_13 : decode cX11_wipe 13 = .ok (.putfield 110, 3) := by decide +kernel
theorem dX11_wipe_16 : decode cX11_wipe 16 = .ok (.iload_n 1, 1) := by decide +kernel
theorem dX11_wipe_17 : decode cX11_wipe 17 = .ok (.ireturn, 1) := by decide +kernel
theorem dX11_fault_0 : decode cX11_fault 0 = .ok (.aload_n 0, 1) := by decide +kernel
theorem dX11_fault_1 : decode cX11_fault 1 = .ok (.getfield 19, 3) := by decide +kernel
theorem dX11_fault_4 : decode cX11_fault 4 = .ok (.aload_n 0, 1) := by decide +kernel
theorem dX11_fault_5 : decode cX11_fault 5 = .ok (.getfield 10, 3) := by decide +kernel
theorem dX11_fault_8 : decode cX11_fault 8 = .ok (.invokevirtual 114, 3) := by decide +kernel
theorem dX11_fault_11 : decode cX11_fault 11 = .ok (.ireturn, 1) := by decide +kernel
theorem dX11_lay_0 : decode cX11_lay 0 = .ok (.aload_n 0, 1) := by decide +kernel
theorem dX11_lay_1 : decode cX11_lay 1 = .ok (.getfield 19, 3) := by decide +kernel
theorem dX11_lay_4 : decode cX11_lay 4 = .ok (.aload_n 0, 1) := by decide +kernel
theorem dX11_lay_5 : decode cX11_lay 5 = .ok (.getfield 10, 3) := by decide +kernel
theorem dX11_lay_8 : decode cX11_lay 8 = .ok (.invokevirtual 114, 3) := by decide +kernel
theorem dX11_lay_11 : decode cX11_lay 11 = .ok (.bipush (-4), 2) := by decide +kernel
theorem dX11_lay_13 : decode cX11_lay 13 = .ok (.if_icmp .ne 13, 3) := by decide +kernel
theorem dX11_lay_16 : decode cX11_lay 16 = .ok (.aload_n 0, 1) := by decide +kernel
theorem dX11_lay_17 : decode cX11_lay 17 = .ok (.getfield 19, 3) := by decide +kernel
theorem dX11_lay_20 : decode cX11_lay 20 = .ok (.invokevirtual 118, 3) := by decide +kernel
theorem dX11_lay_23 : decode cX11_lay 23 = .ok (.ifCond .ne 6, 3) := by decide +kernel
theorem dX11_lay_26 : decode cX11_lay 26 = .ok (.bipush (-2), 2) := by decide +kernel
theorem dX11_lay_28 : decode cX11_lay 28 = .ok (.ireturn, 1) := by decide +kernel
theorem dX11_lay_29 : decode cX11_lay 29 = .ok (.aload_n 0, 1) := by decide +kernel
theorem dX11_lay_30 : decode cX11_lay 30 = .ok (.getfield 23, 3) := by decide +kernel
theorem dX11_lay_33 : decode cX11_lay 33 = .ok (.aload_n 0, 1) := by decide +kernel
theorem dX11_lay_34 : decode cX11_lay 34 = .ok (.getfield 10, 3) := by decide +kernel
theorem dX11_lay_37 : decode cX11_lay 37 = .ok (.invokevirtual 114, 3) := by decide +kernel
theorem dX11_lay_40 : decode cX11_lay 40 = .ok (.pop, 1) := by decide +kernel
theorem dX11_lay_41 : decode cX11_lay 41 = .ok (.aload_n 0, 1) := by decide +kernel
theorem dX11_lay_42 : decode cX11_lay 42 = .ok (.getfield 29, 3) := by decide +kernel
theorem dX11_lay_45 : decode cX11_lay 45 = .ok (.aload_n 0, 1) := by decide +kernel
theorem dX11_lay_46 : decode cX11_lay 46 = .ok (.getfield 23, 3) := by decide +kernel
theorem dX11_lay_49 : decode cX11_lay 49 = .ok (.getfield 90, 3) := by decide +kernel
theorem dX11_lay_52 : decode cX11_lay 52 = .ok (.invokevirtual 99, 3) := by decide +kernel
theorem dX11_lay_55 : decode cX11_lay 55 = .ok (.aload_n 0, 1) := by decide +kernel
theorem dX11_lay_56 : decode cX11_lay 56 = .ok (.getfield 76, 3) := by decide +kernel
theorem dX11_lay_59 : decode cX11_lay 59 = .ok (.iconst 0, 1) := by decide +kernel
theorem dX11_lay_60 : decode cX11_lay 60 = .ok (.putfield 122, 3) := by decide +kernel
theorem dX11_lay_63 : decode cX11_lay 63 = .ok (.aload_n 0, 1) := by decide +kernel
theorem dX11_lay_64 : decode cX11_lay 64 = .ok (.iconst 0, 1) := by decide +kernel
theorem dX11_lay_65 : decode cX11_lay 65 = .ok (.putfield 125, 3) := by decide +kernel
theorem dX11_lay_68 : decode cX11_lay 68 = .ok (.aload_n 0, 1) := by decide +kernel
theorem dX11_lay_69 : decode cX11_lay 69 = .ok (.getfield 23, 3) := by decide +kernel
theorem dX11_lay_72 : decode cX11_lay 72 = .ok (.getfield 90, 3) := by decide +kernel
theorem dX11_lay_75 : decode cX11_lay 75 = .ok (.getfield 128, 3) := by decide +kernel
theorem dX11_lay_78 : decode cX11_lay 78 = .ok (.ireturn, 1) := by decide +kernel
theorem dX11_food_0 : decode cX11_food 0 = .ok (.aload_n 0, 1) := by decide +kernel
theorem dX11_food_1 : decode cX11_food 1 = .ok (.getfield 44, 3) := by decide +kernel
theorem dX11_food_4 : decode cX11_food 4 = .ok (.iload_n 1, 1) := by decide +kernel
theorem dX11_food_5 : decode cX11_food 5 = .ok (.invokevirtual 129, 3) := by decide +kernel
theorem dX11_food_8 : decode cX11_food 8 = .ok (.ifCond .ne 5, 3) := by decide +kernel
theorem dX11_food_11 : decode cX11_food 11 = .ok (.iconst (-1), 1) := by decide +kernel
theorem dX11_food_12 : decode cX11_food 12 = .ok (.ireturn, 1) := by decide +kernel
theorem dX11_food_13 : decode cX11_food 13 = .ok (.iload_n 2, 1) := by decide +kernel
theorem dX11_food_14 : decode cX11_food 14 = .ok (.tableswitch 116 0 6 #[42, 51, 60, 69, 78, 87, 104], 42) := by decide +kernel
theorem dX11_food_56 : decode cX11_food 56 = .ok (.aload_n 0, 1) := by decide +kernel
theorem dX11_food_57 : decode cX11_food 57 = .ok (.getfield 29, 3) := by decide +kernel
theorem dX11_food_60 : decode cX11_food 60 = .ok (.iload_n 1, 1) := by decide +kernel
theorem dX11_food_61 : decode cX11_food 61 = .ok (.invokevirtual 133, 3) := by decide +kernel
theorem dX11_food_64 : decode cX11_food 64 = .ok (.ireturn, 1) := by decide +kernel
theorem dX11_food_65 : decode cX11_food 65 = .ok (.aload_n 0, 1) := by decide +kernel
theorem dX11_food_66 : decode cX11_food 66 = .ok (.getfield 29, 3) := by decide +kernel
theorem dX11_food_69 : decode cX11_food 69 = .ok (.iload_n 1, 1) := by decide +kernel
theorem dX11_food_70 : decode cX11_food 70 = .ok (.invokevirtual 137, 3) := by decide +kernel
theorem dX11_food_73 : decode cX11_food 73 = .ok (.ireturn, 1) := by decide +kernel
theorem dX11_food_74 : decode cX11_food 74 = .ok (.aload_n 0, 1) := by decide +kernel
theorem dX11_food_75 : decode cX11_food 75 = .ok (.getfield 29, 3) := by decide +kernel
theorem dX11_food_78 : decode cX11_food 78 = .ok (.iload_n 1, 1) := by decide +kernel
theorem dX11_food_79 : decode cX11_food 79 = .ok (.invokevirtual 140, 3) := by decide +kernel
theorem dX11_food_82 : decode cX11_food 82 = .ok (.ireturn, 1) := by decide +kernel
theorem dX11_food_83 : decode cX11_food 83 = .ok (.aload_n 0, 1) := by decide +kernel
theorem dX11_food_84 : decode cX11_food 84 = .ok (.getfield 44, 3) := by decide +kernel
theorem dX11_food_87 : decode cX11_food 87 = .ok (.iload_n 1, 1) := by decide +kernel
theorem dX11_food_88 : decode cX11_food 88 = .ok (.invokevirtual 143, 3) := by decide +kernel
theorem dX11_food_91 : decode cX11_food 91 = .ok (.ireturn, 1) := by decide +kernel
theorem dX11_food_92 : decode cX11_food 92 = .ok (.aload_n 0, 1) := by decide +kernel
theorem dX11_food_93 : decode cX11_food 93 = .ok (.getfield 29, 3) := by decide +kernel
theorem dX11_food_96 : decode cX11_food 96 = .ok (.iload_n 1, 1) := by decide +kernel
theorem dX11_food_97 : decode cX11_food 97 = .ok (.invokevirtual 146, 3) := by decide +kernel
theorem dX11_food_100 : decode cX11_food 100 = .ok (.ireturn, 1) := by decide +kernel
theorem dX11_food_101 : decode cX11_food 101 = .ok (.aload_n 0, 1) := by decide +kernel
theorem dX11_food_102 : decode cX11_food 102 = .ok (.getfield 44, 3) := by decide +kernel
theorem dX11_food_105 : decode cX11_food 105 = .ok (.iload_n 1, 1) := by decide +kernel
theorem dX11_food_106 : decode cX11_food 106 = .ok (.invokevirtual 149, 3) := by decide +kernel
theorem dX11_food_109 : decode cX11_food 109 = .ok (.ifCond .eq 7, 3) := by decide +kernel
theorem dX11_food_112 : decode cX11_food 112 = .ok (.iconst 1, 1) := by decide +kernel
theorem dX11_food_113 : decode cX11_food 113 = .ok (.goto 4, 3) := by decide +kernel
theorem dX11_food_116 : decode cX11_food 116 = .ok (.iconst 0, 1) := by decide +kernel
theorem dX11_food_117 : decode cX11_food 117 = .ok (.ireturn, 1) := by decide +kernel
theorem dX11_food_118 : decode cX11_food 118 = .ok (.aload_n 0, 1) := by decide +kernel
theorem dX11_food_119 : decode cX11_food 119 = .ok (.getfield 23, 3) := by decide +kernel
theorem dX11_food_122 : decode cX11_food 122 = .ok (.getfield 90, 3) := by decide +kernel
theorem dX11_food_125 : decode cX11_food 125 = .ok (.iload_n 1, 1) := by decide +kernel
theorem dX11_food_126 : decode cX11_food 126 = .ok (.invokevirtual 152, 3) := by decide +kernel
theorem dX11_food_129 : decode cX11_food 129 = .ok (.ireturn, 1) := by decide +kernel
theorem dX11_food_130 : decode cX11_food 130 = .ok (.iconst (-1), 1) := by decide +kernel
theorem dX11_food_131 : decode cX11_food 131 = .ok (.ireturn, 1) := by decide +kernel
theorem dX11_warmth_0 : decode cX11_warmth 0 = .ok (.aload_n 0, 1) := by decide +kernel
theorem dX11_warmth_1 : decode cX11_warmth 1 = .ok (.getfield 23, 3) := by decide +kernel
theorem dX11_warmth_4 : decode cX11_warmth 4 = .ok (.getfield 80, 3) := by decide +kernel
theorem dX11_warmth_7 : decode cX11_warmth 7 = .ok (.iload_n 1, 1) := by decide +kernel
theorem dX11_warmth_8 : decode cX11_warmth 8 = .ok (.invokevirtual 155, 3) := by decide +kernel
theorem dX11_warmth_11 : decode cX11_warmth 11 = .ok (.ifCond .eq 13, 3) := by decide +kernel
theorem dX11_warmth_14 : decode cX11_warmth 14 = .ok (.iload_n 2, 1) := by decide +kernel
theorem dX11_warmth_15 : decode cX11_warmth 15 = .ok (.iconst 0, 1) := by decide +kernel
theorem dX11_warmth_16 : decode cX11_warmth 16 = .ok (.ldc 158, 2) := by decide +kernel
theorem dX11_warmth_18 : decode cX11_warmth 18 = .ok (.invokestatic 103, 3) := by decide +kernel
theorem dX11_warmth_21 : decode cX11_warmth 21 = .ok (.ifCond .ne 5, 3) := by decide +kernel
theorem dX11_warmth_24 : decode cX11_warmth 24 = .ok (.iconst (-1), 1) := by decide +kernel
theorem dX11_warmth_25 : decode cX11_warmth 25 = .ok (.ireturn, 1) := by decide +kernel
theorem dX11_warmth_26 : decode cX11_warmth 26 = .ok (.aload_n 0, 1) := by decide +kernel
theorem dX11_warmth_27 : decode cX11_warmth 27 = .ok (.getfield 23, 3) := by decide +kernel
theorem dX11_warmth_30 : decode cX11_warmth 30 = .ok (.getfield 80, 3) := by decide +kernel
theorem dX11_warmth_33 : decode cX11_warmth 33 = .ok (.iload_n 1, 1) := by decide +kernel
theorem dX11_warmth_34 : decode cX11_warmth 34 = .ok (.iload_n 2, 1) := by decide +kernel
theorem dX11_warmth_35 : decode cX11_warmth 35 = .ok (.invokevirtual 159, 3) := by decide +kernel
theorem dX11_warmth_38 : decode cX11_warmth 38 = .ok (.ireturn, 1) := by decide +kernel
theorem dX11_hours_0 : decode cX11_hours 0 = .ok (.iload_n 1, 1) := by decide +kernel
theorem dX11_hours_1 : decode cX11_hours 1 = .ok (.iconst 1, 1) := by decide +kernel
theorem dX11_hours_2 : decode cX11_hours 2 = .ok (.sipush 999, 3) := by decide +kernel
theorem dX11_hours_5 : decode cX11_hours 5 = .ok (.invokestatic 103, 3) := by decide +kernel
theorem dX11_hours_8 : decode cX11_hours 8 = .ok (.ifCond .ne 5, 3) := by decide +kernel
theorem dX11_hours_11 : decode cX11_hours 11 = .ok (.iconst (-1), 1) := by decide +kernel
theorem dX11_hours_12 : decode cX11_hours 12 = .ok (.ireturn, 1) := by decide +kernel
theorem dX11_hours_13 : decode cX11_hours 13 = .ok (.aload_n 0, 1) := by decide +kernel
theorem dX11_hours_14 : decode cX11_hours 14 = .ok (.getfield 29, 3) := by decide +kernel
theorem dX11_hours_17 : decode cX11_hours 17 = .ok (.getfield 163, 3) := by decide +kernel
theorem dX11_hours_20 : decode cX11_hours 20 = .ok (.iload_n 1, 1) := by decide +kernel
theorem dX11_hours_21 : decode cX11_hours 21 = .ok (.iadd, 1) := by decide +kernel
theorem dX11_hours_22 : decode cX11_hours 22 = .ok (.ldc 158, 2) := by decide +kernel
theorem dX11_hours_24 : decode cX11_hours 24 = .ok (.if_icmp .le 6, 3) := by decide +kernel
theorem dX11_hours_27 : decode cX11_hours 27 = .ok (.bipush (-2), 2) := by decide +kernel
theorem dX11_hours_29 : decode cX11_hours 29 = .ok (.ireturn, 1) := by decide +kernel
theorem dX11_hours_30 : decode cX11_hours 30 = .ok (.aload_n 0, 1) := by decide +kernel
theorem dX11_hours_31 : decode cX11_hours 31 = .ok (.getfield 44, 3) := by decide +kernel
theorem dX11_hours_34 : decode cX11_hours 34 = .ok (.iload_n 1, 1) := by decide +kernel
theorem dX11_hours_35 : decode cX11_hours 35 = .ok (.invokevirtual 166, 3) := by decide +kernel
theorem dX11_hours_38 : decode cX11_hours 38 = .ok (.aload_n 0, 1) := by decide +kernel
theorem dX11_hours_39 : decode cX11_hours 39 = .ok (.getfield 44, 3) := by decide +kernel
theorem dX11_hours_42 : decode cX11_hours 42 = .ok (.invokevirtual 170, 3) := by decide +kernel
theorem dX11_hours_45 : decode cX11_hours 45 = .ok (.invokestatic 174, 3) := by decide +kernel
theorem dX11_hours_48 : decode cX11_hours 48 = .ok (.ireturn, 1) := by decide +kernel
theorem dX11_move_0 : decode cX11_move 0 = .ok (.aload_n 0, 1) := by decide +kernel
theorem dX11_move_1 : decode cX11_move 1 = .ok (.getfield 44, 3) := by decide +kernel
theorem dX11_move_4 : decode cX11_move 4 = .ok (.iload_n 1, 1) := by decide +kernel
theorem dX11_move_5 : decode cX11_move 5 = .ok (.invokevirtual 129, 3) := by decide +kernel
theorem dX11_move_8 : decode cX11_move 8 = .ok (.ifCond .eq 17, 3) := by decide +kernel
theorem dX11_move_11 : decode cX11_move 11 = .ok (.aload_n 0, 1) := by decide +kernel
theorem dX11_move_12 : decode cX11_move 12 = .ok (.getfield 23, 3) := by decide +kernel
theorem dX11_move_15 : decode cX11_move 15 = .ok (.getfield 80, 3) := by decide +kernel
theorem dX11_move_18 : decode cX11_move 18 = .ok (.iload_n 2, 1) := by decide +kernel
theorem dX11_move_19 : decode cX11_move 19 = .ok (.invokevirtual 155, 3) := by decide +kernel
theorem dX11_move_22 : decode cX11_move 22 = .ok (.ifCond .ne 5, 3) := by decide +kernel
theorem dX11_move_25 : decode cX11_move 25 = .ok (.iconst (-1), 1) := by decide +kernel
theorem dX11_move_26 : decode cX11_move 26 = .ok (.ireturn, 1) := by decide +kernel
theorem dX11_move_27 : decode cX11_move 27 = .ok (.aload_n 0, 1) := by decide +kernel
theorem dX11_move_28 : decode cX11_move 28 = .ok (.getfield 29, 3) := by decide +kernel
theorem dX11_move_31 : decode cX11_move 31 = .ok (.iload_n 1, 1) := by decide +kernel
theorem dX11_move_32 : decode cX11_move 32 = .ok (.invokevirtual 179, 3) := by decide +kernel
theorem dX11_move_35 : decode cX11_move 35 = .ok (.ifCond .eq 37, 3) := by decide +kernel
theorem dX11_move_38 : decode cX11_move 38 = .ok (.aload_n 0, 1) := by decide +kernel
theorem dX11_move_39 : decode cX11_move 39 = .ok (.getfield 29, 3) := by decide +kernel
theorem dX11_move_42 : decode cX11_move 42 = .ok (.iload_n 1, 1) := by decide +kernel
theorem dX11_move_43 : decode cX11_move 43 = .ok (.invokevirtual 137, 3) := by decide +kernel
theorem dX11_move_46 : decode cX11_move 46 = .ok (.iload_n 2, 1) := by decide +kernel
theorem dX11_move_47 : decode cX11_move 47 = .ok (.if_icmp .eq 25, 3) := by decide +kernel
theorem dX11_move_50 : decode cX11_move 50 = .ok (.aload_n 0, 1) := by decide +kernel
theorem dX11_move_51 : decode cX11_move 51 = .ok (.getfield 29, 3) := by decide +kernel
theorem dX11_move_54 : decode cX11_move 54 = .ok (.iload_n 2, 1) := by decide +kernel
theorem dX11_move_55 : decode cX11_move 55 = .ok (.invokevirtual 182, 3) := by decide +kernel
theorem dX11_move_58 : decode cX11_move 58 = .ok (.aload_n 0, 1) := by decide +kernel
theorem dX11_move_59 : decode cX11_move 59 = .ok (.getfield 23, 3) := by decide +kernel
theorem dX11_move_62 : decode cX11_move 62 = .ok (.getfield 80, 3) := by decide +kernel
theorem dX11_move_65 : decode cX11_move 65 = .ok (.iload_n 2, 1) := by decide +kernel
theorem dX11_move_66 : decode cX11_move 66 = .ok (.invokevirtual 185, 3) := by decide +kernel
theorem dX11_move_69 : decode cX11_move 69 = .ok (.if_icmp .lt 6, 3) := by decide +kernel
theorem dX11_move_72 : decode cX11_move 72 = .ok (.bipush (-2), 2) := by decide +kernel
theorem dX11_move_74 : decode cX11_move 74 = .ok (.ireturn, 1) := by decide +kernel
theorem dX11_move_75 : decode cX11_move 75 = .ok (.aload_n 0, 1) := by decide +kernel
theorem dX11_move_76 : decode cX11_move 76 = .ok (.getfield 29, 3) := by decide +kernel
theorem dX11_move_79 : decode cX11_move 79 = .ok (.iload_n 1, 1) := by decide +kernel
theorem dX11_move_80 : decode cX11_move 80 = .ok (.iload_n 2, 1) := by decide +kernel
theorem dX11_move_81 : decode cX11_move 81 = .ok (.invokevirtual 188, 3) := by decide +kernel
theorem dX11_move_84 : decode cX11_move 84 = .ok (.aload_n 0, 1) := by decide +kernel
theorem dX11_move_85 : decode cX11_move 85 = .ok (.getfield 29, 3) := by decide +kernel
theorem dX11_move_88 : decode cX11_move 88 = .ok (.iload_n 2, 1) := by decide +kernel
theorem dX11_move_89 : decode cX11_move 89 = .ok (.invokevirtual 182, 3) := by decide +kernel
theorem dX11_move_92 : decode cX11_move 92 = .ok (.ireturn, 1) := by decide +kernel
theorem dX11_make_0 : decode cX11_make 0 = .ok (.aload_n 0, 1) := by decide +kernel
theorem dX11_make_1 : decode cX11_make 1 = .ok (.getfield 44, 3) := by decide +kernel
theorem dX11_make_4 : decode cX11_make 4 = .ok (.iload_n 1, 1) := by decide +kernel
theorem dX11_make_5 : decode cX11_make 5 = .ok (.invokevirtual 129, 3) := by decide +kernel
theorem dX11_make_8 : decode cX11_make 8 = .ok (.ifCond .eq 12, 3) := by decide +kernel
theorem dX11_make_11 : decode cX11_make 11 = .ok (.iload_n 2, 1) := by decide +kernel
theorem dX11_make_12 : decode cX11_make 12 = .ok (.iconst 0, 1) := by decide +kernel
theorem dX11_make_13 : decode cX11_make 13 = .ok (.iconst 3, 1) := by decide +kernel
theorem dX11_make_14 : decode cX11_make 14 = .ok (.invokestatic 103, 3) := by decide +kernel
theorem dX11_make_17 : decode cX11_make 17 = .ok (.ifCond .ne 5, 3) := by decide +kernel
theorem dX11_make_20 : decode cX11_make 20 = .ok (.iconst (-1), 1) := by decide +kernel
theorem dX11_make_21 : decode cX11_make 21 = .ok (.ireturn, 1) := by decide +kernel
theorem dX11_make_22 : decode cX11_make 22 = .ok (.aload_n 0, 1) := by decide +kernel
theorem dX11_make_23 : decode cX11_make 23 = .ok (.getfield 29, 3) := by decide +kernel
theorem dX11_make_26 : decode cX11_make 26 = .ok (.iload_n 1, 1) := by decide +kernel
theorem dX11_make_27 : decode cX11_make 27 = .ok (.invokevirtual 133, 3) := by decide +kernel
theorem dX11_make_30 : decode cX11_make 30 = .ok (.istore_n 3, 1) := by decide +kernel
theorem dX11_make_31 : decode cX11_make 31 = .ok (.aload_n 0, 1) := by decide +kernel
theorem dX11_make_32 : decode cX11_make 32 = .ok (.getfield 29, 3) := by decide +kernel
theorem dX11_make_35 : decode cX11_make 35 = .ok (.iload_n 1, 1) := by decide +kernel
theorem dX11_make_36 : decode cX11_make 36 = .ok (.invokevirtual 179, 3) := by decide +kernel
theorem dX11_make_39 : decode cX11_make 39 = .ok (.ifCond .eq 11, 3) := by decide +kernel
theorem dX11_make_42 : decode cX11_make 42 = .ok (.iload_n 3, 1) := by decide +kernel
theorem dX11_make_43 : decode cX11_make 43 = .ok (.iload_n 2, 1) := by decide +kernel
theorem dX11_make_44 : decode cX11_make 44 = .ok (.invokestatic 192, 3) := by decide +kernel
theorem dX11_make_47 : decode cX11_make 47 = .ok (.ifCond .ne 6, 3) := by decide +kernel
theorem dX11_make_50 : decode cX11_make 50 = .ok (.bipush (-2), 2) := by decide +kernel
theorem dX11_make_52 : decode cX11_make 52 = .ok (.ireturn, 1) := by decide +kernel
theorem dX11_make_53 : decode cX11_make 53 = .ok (.aload_n 0, 1) := by decide +kernel
theorem dX11_make_54 : decode cX11_make 54 = .ok (.getfield 29, 3) := by decide +kernel
theorem dX11_make_57 : decode cX11_make 57 = .ok (.iload_n 1, 1) := by decide +kernel
theorem dX11_make_58 : decode cX11_make 58 = .ok (.iload_n 2, 1) := by decide +kernel
theorem dX11_make_59 : decode cX11_make 59 = .ok (.ifCond .ne 7, 3) := by decide +kernel
theorem dX11_make_62 : decode cX11_make 62 = .ok (.iconst 1, 1) := by decide +kernel
theorem dX11_make_63 : decode cX11_make 63 = .ok (.goto 4, 3) := by decide +kernel
theorem dX11_make_66 : decode cX11_make 66 = .ok (.iload_n 2, 1) := by decide +kernel
theorem dX11_make_67 : decode cX11_make 67 = .ok (.invokevirtual 196, 3) := by decide +kernel
theorem dX11_make_70 : decode cX11_make 70 = .ok (.iload_n 3, 1) := by decide +kernel
theorem dX11_make_71 : decode cX11_make 71 = .ok (.ireturn, 1) := by decide +kernel
theorem dX11_eat_0 : decode cX11_eat 0 = .ok (.aload_n 0, 1) := by decide +kernel
theorem dX11_eat_1 : decode cX11_eat 1 = .ok (.iload_n 1, 1) := by decide +kernel
theorem dX11_eat_2 : decode cX11_eat 2 = .ok (.iconst 1, 1) := by decide +kernel
theorem dX11_eat_3 : decode cX11_eat 3 = .ok (.invokevirtual 199, 3) := by decide +kernel
theorem dX11_eat_6 : decode cX11_eat 6 = .ok (.ireturn, 1) := by decide +kernel
theorem dX11_throwOut_0 : decode cX11_throwOut 0 = .ok (.aload_n 0, 1) := by decide +kernel
theorem dX11_throwOut_1 : decode cX11_throwOut 1 = .ok (.iload_n 1, 1) := by decide +kernel
theorem dX11_throwOut_2 : decode cX11_throwOut 2 = .ok (.iconst 2, 1) := by decide +kernel
theorem dX11_throwOut_3 : decode cX11_throwOut 3 = .ok (.invokevirtual 199, 3) := by decide +kernel
theorem dX11_throwOut_6 : decode cX11_throwOut 6 = .ok (.ireturn, 1) := by decide +kernel
theorem dX11_offIn_0 : decode cX11_offIn 0 = .ok (.aload_n 0, 1) := by decide +kernel
theorem dX11_offIn_1 : decode cX11_offIn 1 = .ok (.getfield 44, 3) := by decide +kernel
theorem dX11_offIn_4 : decode cX11_offIn 4 = .ok (.iload_n 1, 1) := by decide +kernel
theorem dX11_offIn_5 : decode cX11_offIn 5 = .ok (.invokevirtual 129, 3) := by decide +kernel
theorem dX11_offIn_8 : decode cX11_offIn 8 = .ok (.ifCond .eq 17, 3) := by decide +kernel
theorem dX11_offIn_11 : decode cX11_offIn 11 = .ok (.aload_n 0, 1) := by decide +kernel
theorem dX11_offIn_12 : decode cX11_offIn 12 = .ok (.getfield 23, 3) := by decide +kernel
theorem dX11_offIn_15 : decode cX11_offIn 15 = .ok (.getfield 80, 3) := by decide +kernel
theorem dX11_offIn_18 : decode cX11_offIn 18 = .ok (.iload_n 2, 1) := by decide +kernel
theorem dX11_offIn_19 : decode cX11_offIn 19 = .ok (.invokevirtual 155, 3) := by decide +kernel
theorem dX11_offIn_22 : decode cX11_offIn 22 = .ok (.ifCond .ne 5, 3) := by decide +kernel
theorem dX11_offIn_25 : decode cX11_offIn 25 = .ok (.iconst (-1), 1) := by decide +kernel
theorem dX11_offIn_26 : decode cX11_offIn 26 = .ok (.ireturn, 1) := by decide +kernel
theorem dX11_offIn_27 : decode cX11_offIn 27 = .ok (.aload_n 0, 1) := by decide +kernel
theorem dX11_offIn_28 : decode cX11_offIn 28 = .ok (.getfield 29, 3) := by decide +kernel
theorem dX11_offIn_31 : decode cX11_offIn 31 = .ok (.iload_n 1, 1) := by decide +kernel
theorem dX11_offIn_32 : decode cX11_offIn 32 = .ok (.invokevirtual 179, 3) := by decide +kernel
theorem dX11_offIn_35 : decode cX11_offIn 35 = .ok (.ifCond .eq 15, 3) := by decide +kernel
theorem dX11_offIn_38 : decode cX11_offIn 38 = .ok (.aload_n 0, 1) := by decide +kernel
theorem dX11_offIn_39 : decode cX11_offIn 39 = .ok (.getfield 44, 3) := by decide +kernel
theorem dX11_offIn_42 : decode cX11_offIn 42 = .ok (.iload_n 1, 1) := by decide +kernel
theorem dX11_offIn_43 : decode cX11_offIn 43 = .ok (.iload_n 2, 1) := by decide +kernel
theorem dX11_offIn_44 : decode cX11_offIn 44 = .ok (.invokevirtual 202, 3) := by decide +kernel
theorem dX11_offIn_47 : decode cX11_offIn 47 = .ok (.goto 5, 3) := by decide +kernel
theorem dX11_offIn_50 : decode cX11_offIn 50 = .ok (.bipush (-2), 2) := by decide +kernel
theorem dX11_offIn_52 : decode cX11_offIn 52 = .ok (.ireturn, 1) := by decide +kernel
theorem dX11_lost_0 : decode cX11_lost 0 = .ok (.iload_n 1, 1) := by decide +kernel
theorem dX11_lost_1 : decode cX11_lost 1 = .ok (.iconst 0, 1) := by decide +kernel
theorem dX11_lost_2 : decode cX11_lost 2 = .ok (.sipush 500, 3) := by decide +kernel
theorem dX11_lost_5 : decode cX11_lost 5 = .ok (.invokestatic 103, 3) := by decide +kernel
theorem dX11_lost_8 : decode cX11_lost 8 = .ok (.ifCond .eq 14, 3) := by decide +kernel
theorem dX11_lost_11 : decode cX11_lost 11 = .ok (.aload_n 0, 1) := by decide +kernel
theorem dX11_lost_12 : decode cX11_lost 12 = .ok (.getfield 44, 3) := by decide +kernel
theorem dX11_lost_15 : decode cX11_lost 15 = .ok (.iload_n 1, 1) := by decide +kernel
theorem dX11_lost_16 : decode cX11_lost 16 = .ok (.invokevirtual 205, 3) := by decide +kernel
theorem dX11_lost_19 : decode cX11_lost 19 = .ok (.goto 4, 3) := by decide +kernel
theorem dX11_lost_22 : decode cX11_lost 22 = .ok (.iconst (-1), 1) := by decide +kernel
theorem dX11_lost_23 : decode cX11_lost 23 = .ok (.ireturn, 1) := by decide +kernel
theorem dX11_plan_0 : decode cX11_plan 0 = .ok (.iload_n 1, 1) := by decide +kernel
theorem dX11_plan_1 : decode cX11_plan 1 = .ok (.iconst 1, 1) := by decide +kernel
theorem dX11_plan_2 : decode cX11_plan 2 = .ok (.iconst 4, 1) := by decide +kernel
theorem dX11_plan_3 : decode cX11_plan 3 = .ok (.invokestatic 103, 3) := by decide +kernel
theorem dX11_plan_6 : decode cX11_plan 6 = .ok (.ifCond .eq 14, 3) := by decide +kernel
theorem dX11_plan_9 : decode cX11_plan 9 = .ok (.iload_n 2, 1) := by decide +kernel
theorem dX11_plan_10 : decode cX11_plan 10 = .ok (.iconst (-1), 1) := by decide +kernel
theorem dX11_plan_11 : decode cX11_plan 11 = .ok (.iload_n 1, 1) := by decide +kernel
theorem dX11_plan_12 : decode cX11_plan 12 = .ok (.iconst 1, 1) := by decide +kernel
theorem dX11_plan_13 : decode cX11_plan 13 = .ok (.isub, 1) := by decide +kernel
theorem dX11_plan_14 : decode cX11_plan 14 = .ok (.invokestatic 103, 3) := by decide +kernel
theorem dX11_plan_17 : decode cX11_plan 17 = .ok (.ifCond .ne 5, 3) := by decide +kernel
theorem dX11_plan_20 : decode cX11_plan 20 = .ok (.iconst (-1), 1) := by decide +kernel
theorem dX11_plan_21 : decode cX11_plan 21 = .ok (.ireturn, 1) := by decide +kernel
theorem dX11_plan_22 : decode cX11_plan 22 = .ok (.aload_n 0, 1) := by decide +kernel
theorem dX11_plan_23 : decode cX11_plan 23 = .ok (.getfield 62, 3) := by decide +kernel
theorem dX11_plan_26 : decode cX11_plan 26 = .ok (.iload_n 1, 1) := by decide +kernel
theorem dX11_plan_27 : decode cX11_plan 27 = .ok (.invokevirtual 208, 3) := by decide +kernel
theorem dX11_plan_30 : decode cX11_plan 30 = .ok (.iload_n 2, 1) := by decide +kernel
theorem dX11_plan_31 : decode cX11_plan 31 = .ok (.ifCond .ge 13, 3) := by decide +kernel
theorem dX11_plan_34 : decode cX11_plan 34 = .ok (.aload_n 0, 1) := by decide +kernel
theorem dX11_plan_35 : decode cX11_plan 35 = .ok (.getfield 62, 3) := by decide +kernel
theorem dX11_plan_38 : decode cX11_plan 38 = .ok (.getfield 211, 3) := by decide +kernel
theorem dX11_plan_41 : decode cX11_plan 41 = .ok (.goto 11, 3) := by decide +kernel
theorem dX11_plan_44 : decode cX11_plan 44 = .ok (.aload_n 0, 1) := by decide +kernel
theorem dX11_plan_45 : decode cX11_plan 45 = .ok (.getfield 62, 3) := by decide +kernel
theorem dX11_plan_48 : decode cX11_plan 48 = .ok (.iload_n 2, 1) := by decide +kernel
theorem dX11_plan_49 : decode cX11_plan 49 = .ok (.invokevirtual 214, 3) := by decide +kernel
theorem dX11_plan_52 : decode cX11_plan 52 = .ok (.ireturn, 1) := by decide +kernel
theorem dX11_freeze_0 : decode cX11_freeze 0 = .ok (.iload_n 1, 1) := by decide +kernel
theorem dX11_freeze_1 : decode cX11_freeze 1 = .ok (.iconst 0, 1) := by decide +kernel
theorem dX11_freeze_2 : decode cX11_freeze 2 = .ok (.sipush 500, 3) := by decide +kernel
theorem dX11_freeze_5 : decode cX11_freeze 5 = .ok (.invokestatic 103, 3) := by decide +kernel
theorem dX11_freeze_8 : decode cX11_freeze 8 = .ok (.ifCond .eq 12, 3) := by decide +kernel
theorem dX11_freeze_11 : decode cX11_freeze 11 = .ok (.iload_n 2, 1) := by decide +kernel
theorem dX11_freeze_12 : decode cX11_freeze 12 = .ok (.iconst 0, 1) := by decide +kernel
theorem dX11_freeze_13 : decode cX11_freeze 13 = .ok (.iconst 1, 1) := by decide +kernel
theorem dX11_freeze_14 : decode cX11_freeze 14 = .ok (.invokestatic 103, 3) := by decide +kernel
theorem dX11_freeze_17 : decode cX11_freeze 17 = .ok (.ifCond .ne 5, 3) := by decide +kernel
theorem dX11_freeze_20 : decode cX11_freeze 20 = .ok (.iconst (-1), 1) := by decide +kernel
theorem dX11_freeze_21 : decode cX11_freeze 21 = .ok (.ireturn, 1) := by decide +kernel
theorem dX11_freeze_22 : decode cX11_freeze 22 = .ok (.aload_n 0, 1) := by decide +kernel
theorem dX11_freeze_23 : decode cX11_freeze 23 = .ok (.getfield 44, 3) := by decide +kernel
theorem dX11_freeze_26 : decode cX11_freeze 26 = .ok (.iload_n 1, 1) := by decide +kernel
theorem dX11_freeze_27 : decode cX11_freeze 27 = .ok (.invokevirtual 217, 3) := by decide +kernel
theorem dX11_freeze_30 : decode cX11_freeze 30 = .ok (.istore_n 3, 1) := by decide +kernel
theorem dX11_freeze_31 : decode cX11_freeze 31 = .ok (.iload_n 3, 1) := by decide +kernel
theorem dX11_freeze_32 : decode cX11_freeze 32 = .ok (.ifCond .ge 6, 3) := by decide +kernel
theorem dX11_freeze_35 : decode cX11_freeze 35 = .ok (.bipush (-4), 2) := by decide +kernel
theorem dX11_freeze_37 : decode cX11_freeze 37 = .ok (.ireturn, 1) := by decide +kernel
theorem dX11_freeze_38 : decode cX11_freeze 38 = .ok (.iload_n 2, 1) := by decide +kernel
theorem dX11_freeze_39 : decode cX11_freeze 39 = .ok (.ifCond .ne 7, 3) := by decide +kernel
theorem dX11_freeze_42 : decode cX11_freeze 42 = .ok (.iload_n 3, 1) := by decide +kernel
theorem dX11_freeze_43 : decode cX11_freeze 43 = .ok (.goto 20, 3) := by decide +kernel
theorem dX11_freeze_46 : decode cX11_freeze 46 = .ok (.aload_n 0, 1) := by decide +kernel
theorem dX11_freeze_47 : decode cX11_freeze 47 = .ok (.getfield 44, 3) := by decide +kernel
theorem dX11_freeze_50 : decode cX11_freeze 50 = .ok (.iload_n 3, 1) := by decide +kernel
theorem dX11_freeze_51 : decode cX11_freeze 51 = .ok (.iload_n 1, 1) := by decide +kernel
theorem dX11_freeze_52 : decode cX11_freeze 52 = .ok (.aload_n 0, 1) := by decide +kernel
theorem dX11_freeze_53 : decode cX11_freeze 53 = .ok (.getfield 44, 3) := by decide +kernel
theorem dX11_freeze_56 : decode cX11_freeze 56 = .ok (.iload_n 1, 1) := by decide +kernel
theorem dX11_freeze_57 : decode cX11_freeze 57 = .ok (.invokevirtual 205, 3) := by decide +kernel
theorem dX11_freeze_60 : decode cX11_freeze 60 = .ok (.invokevirtual 220, 3) := by decide +kernel
theorem dX11_freeze_63 : decode cX11_freeze 63 = .ok (.ireturn, 1) := by decide +kernel
theorem dX11_lie_0 : decode cX11_lie 0 = .ok (.iload_n 1, 1) := by decide +kernel
theorem dX11_lie_1 : decode cX11_lie 1 = .ok (.iconst 1, 1) := by decide +kernel
theorem dX11_lie_2 : decode cX11_lie 2 = .ok (.iconst 4, 1) := by decide +kernel
theorem dX11_lie_3 : decode cX11_lie 3 = .ok (.invokestatic 103, 3) := by decide +kernel
theorem dX11_lie_6 : decode cX11_lie 6 = .ok (.ifCond .eq 25, 3) := by decide +kernel
theorem dX11_lie_9 : decode cX11_lie 9 = .ok (.iload_n 2, 1) := by decide +kernel
theorem dX11_lie_10 : decode cX11_lie 10 = .ok (.iconst 0, 1) := by decide +kernel
theorem dX11_lie_11 : decode cX11_lie 11 = .ok (.sipush 500, 3) := by decide +kernel
theorem dX11_lie_14 : decode cX11_lie 14 = .ok (.invokestatic 103, 3) := by decide +kernel
theorem dX11_lie_17 : decode cX11_lie 17 = .ok (.ifCond .eq 14, 3) := by decide +kernel
theorem dX11_lie_20 : decode cX11_lie 20 = .ok (.iload_n 3, 1) := by decide +kernel
theorem dX11_lie_21 : decode cX11_lie 21 = .ok (.iconst (-1), 1) := by decide +kernel
theorem dX11_lie_22 : decode cX11_lie 22 = .ok (.iload_n 1, 1) := by decide +kernel
theorem dX11_lie_23 : decode cX11_lie 23 = .ok (.iconst 1, 1) := by decide +kernel
theorem dX11_lie_24 : decode cX11_lie 24 = .ok (.isub, 1) := by decide +kernel
theorem dX11_lie_25 : decode cX11_lie 25 = .ok (.invokestatic 103, 3) := by decide +kernel
theorem dX11_lie_28 : decode cX11_lie 28 = .ok (.ifCond .ne 5, 3) := by decide +kernel
theorem dX11_lie_31 : decode cX11_lie 31 = .ok (.iconst (-1), 1) := by decide +kernel
theorem dX11_lie_32 : decode cX11_lie 32 = .ok (.ireturn, 1) := by decide +kernel
theorem dX11_lie_33 : decode cX11_lie 33 = .ok (.aload_n 0, 1) := by decide +kernel
theorem dX11_lie_34 : decode cX11_lie 34 = .ok (.getfield 29, 3) := by decide +kernel
theorem dX11_lie_37 : decode cX11_lie 37 = .ok (.invokevirtual 224, 3) := by decide +kernel
theorem dX11_lie_40 : decode cX11_lie 40 = .ok (.iload_n 1, 1) := by decide +kernel
theorem dX11_lie_41 : decode cX11_lie 41 = .ok (.if_icmp .ge 6, 3) := by decide +kernel
theorem dX11_lie_44 : decode cX11_lie 44 = .ok (.bipush (-4), 2) := by decide +kernel
theorem dX11_lie_46 : decode cX11_lie 46 = .ok (.ireturn, 1) := by decide +kernel
theorem dX11_lie_47 : decode cX11_lie 47 = .ok (.aload_n 0, 1) := by decide +kernel
theorem dX11_lie_48 : decode cX11_lie 48 = .ok (.getfield 69, 3) := by decide +kernel
theorem dX11_lie_51 : decode cX11_lie 51 = .ok (.iload_n 1, 1) := by decide +kernel
theorem dX11_lie_52 : decode cX11_lie 52 = .ok (.iload_n 2, 1) := by decide +kernel
theorem dX11_lie_53 : decode cX11_lie 53 = .ok (.invokevirtual 227, 3) := by decide +kernel
theorem dX11_lie_56 : decode cX11_lie 56 = .ok (.iload_n 3, 1) := by decide +kernel
theorem dX11_lie_57 : decode cX11_lie 57 = .ok (.ifCond .ge 13, 3) := by decide +kernel
theorem dX11_lie_60 : decode cX11_lie 60 = .ok (.aload_n 0, 1) := by decide +kernel
theorem dX11_lie_61 : decode cX11_lie 61 = .ok (.getfield 69, 3) := by decide +kernel
theorem dX11_lie_64 : decode cX11_lie 64 = .ok (.getfield 230, 3) := by decide +kernel
theorem dX11_lie_67 : decode cX11_lie 67 = .ok (.goto 11, 3) := by decide +kernel
theorem dX11_lie_70 : decode cX11_lie 70 = .ok (.aload_n 0, 1) := by decide +kernel
theorem dX11_lie_71 : decode cX11_lie 71 = .ok (.getfield 69, 3) := by decide +kernel
theorem dX11_lie_74 : decode cX11_lie 74 = .ok (.iload_n 3, 1) := by decide +kernel
theorem dX11_lie_75 : decode cX11_lie 75 = .ok (.invokevirtual 233, 3) := by decide +kernel
theorem dX11_lie_78 : decode cX11_lie 78 = .ok (.ireturn, 1) := by decide +kernel
theorem dX11_expect_0 : decode cX11_expect 0 = .ok (.iload_n 1, 1) := by decide +kernel
theorem dX11_expect_1 : decode cX11_expect 1 = .ok (.iconst 0, 1) := by decide +kernel
theorem dX11_expect_2 : decode cX11_expect 2 = .ok (.bipush 9, 2) := by decide +kernel
theorem dX11_expect_4 : decode cX11_expect 4 = .ok (.invokestatic 103, 3) := by decide +kernel
theorem dX11_expect_7 : decode cX11_expect 7 = .ok (.ifCond .ne 5, 3) := by decide +kernel
theorem dX11_expect_10 : decode cX11_expect 10 = .ok (.iconst (-1), 1) := by decide +kernel
theorem dX11_expect_11 : decode cX11_expect 11 = .ok (.ireturn, 1) := by decide +kernel
theorem dX11_expect_12 : decode cX11_expect 12 = .ok (.aload_n 0, 1) := by decide +kernel
theorem dX11_expect_13 : decode cX11_expect 13 = .ok (.getfield 23, 3) := by decide +kernel
theorem dX11_expect_16 : decode cX11_expect 16 = .ok (.getfield 236, 3) := by decide +kernel
theorem dX11_expect_19 : decode cX11_expect 19 = .ok (.getfield 240, 3) := by decide +kernel
theorem dX11_expect_22 : decode cX11_expect 22 = .ok (.ifCond .le 17, 3) := by decide +kernel
theorem dX11_expect_25 : decode cX11_expect 25 = .ok (.aload_n 0, 1) := by decide +kernel
theorem dX11_expect_26 : decode cX11_expect 26 = .ok (.getfield 23, 3) := by decide +kernel
theorem dX11_expect_29 : decode cX11_expect 29 = .ok (.getfield 236, 3) := by decide +kernel
theorem dX11_expect_32 : decode cX11_expect 32 = .ok (.iload_n 1, 1) := by decide +kernel
theorem dX11_expect_33 : decode cX11_expect 33 = .ok (.invokevirtual 243, 3) := by decide +kernel
theorem dX11_expect_36 : decode cX11_expect 36 = .ok (.goto 5, 3) := by decide +kernel
theorem dX11_expect_39 : decode cX11_expect 39 = .ok (.bipush (-4), 2) := by decide +kernel
theorem dX11_expect_41 : decode cX11_expect 41 = .ok (.ireturn, 1) := by decide +kernel
theorem dX11_buy_0 : decode cX11_buy 0 = .ok (.aload_n 0, 1) := by decide +kernel
theorem dX11_buy_1 : decode cX11_buy 1 = .ok (.getfield 23, 3) := by decide +kernel
theorem dX11_buy_4 : decode cX11_buy 4 = .ok (.getfield 236, 3) := by decide +kernel
theorem dX11_buy_7 : decode cX11_buy 7 = .ok (.getfield 240, 3) := by decide +kernel
theorem dX11_buy_10 : decode cX11_buy 10 = .ok (.ifCond .le 16, 3) := by decide +kernel
theorem dX11_buy_13 : decode cX11_buy 13 = .ok (.aload_n 0, 1) := by decide +kernel
theorem dX11_buy_14 : decode cX11_buy 14 = .ok (.getfield 23, 3) := by decide +kernel
theorem dX11_buy_17 : decode cX11_buy 17 = .ok (.getfield 236, 3) := by decide +kernel
theorem dX11_buy_20 : decode cX11_buy 20 = .ok (.invokevirtual 246, 3) := by decide +kernel
theorem dX11_buy_23 : decode cX11_buy 23 = .ok (.goto 5, 3) := by decide +kernel
theorem dX11_buy_26 : decode cX11_buy 26 = .ok (.bipush (-4), 2) := by decide +kernel
theorem dX11_buy_28 : decode cX11_buy 28 = .ok (.ireturn, 1) := by decide +kernel
theorem dX11_print_0 : decode cX11_print 0 = .ok (.iload_n 1, 1) := by decide +kernel
theorem dX11_print_1 : decode cX11_print 1 = .ok (.iconst 0, 1) := by decide +kernel
theorem dX11_print_2 : decode cX11_print 2 = .ok (.iconst 1, 1) := by decide +kernel
theorem dX11_print_3 : decode cX11_print 3 = .ok (.invokestatic 103, 3) := by decide +kernel
theorem dX11_print_6 : decode cX11_print 6 = .ok (.ifCond .eq 23, 3) := by decide +kernel
theorem dX11_print_9 : decode cX11_print 9 = .ok (.aload_n 0, 1) := by decide +kernel
theorem dX11_print_10 : decode cX11_print 10 = .ok (.getfield 44, 3) := by decide +kernel
theorem dX11_print_13 : decode cX11_print 13 = .ok (.iload_n 1, 1) := by decide +kernel
theorem dX11_print_14 : decode cX11_print 14 = .ok (.iconst 1, 1) := by decide +kernel
theorem dX11_print_15 : decode cX11_print 15 = .ok (.if_icmp .ne 7, 3) := by decide +kernel
theorem dX11_print_18 : decode cX11_print 18 = .ok (.iconst 1, 1) := by decide +kernel
theorem dX11_print_19 : decode cX11_print 19 = .ok (.goto 4, 3) := by decide +kernel
theorem dX11_print_22 : decode cX11_print 22 = .ok (.iconst 0, 1) := by decide +kernel
theorem dX11_print_23 : decode cX11_print 23 = .ok (.invokevirtual 249, 3) := by decide +kernel
theorem dX11_print_26 : decode cX11_print 26 = .ok (.goto 4, 3) := by decide +kernel
theorem dX11_print_29 : decode cX11_print 29 = .ok (.iconst (-1), 1) := by decide +kernel
theorem dX11_print_30 : decode cX11_print 30 = .ok (.ireturn, 1) := by decide +kernel
theorem dX11_smell_0 : decode cX11_smell 0 = .ok (.iload_n 1, 1) := by decide +kernel
theorem dX11_smell_1 : decode cX11_smell 1 = .ok (.iconst 0, 1) := by decide +kernel
theorem dX11_smell_2 : decode cX11_smell 2 = .ok (.bipush 20, 2) := by decide +kernel
theorem dX11_smell_4 : decode cX11_smell 4 = .ok (.invokestatic 103, 3) := by decide +kernel
theorem dX11_smell_7 : decode cX11_smell 7 = .ok (.ifCond .eq 14, 3) := by decide +kernel
theorem dX11_smell_10 : decode cX11_smell 10 = .ok (.aload_n 0, 1) := by decide +kernel
theorem dX11_smell_11 : decode cX11_smell 11 = .ok (.getfield 44, 3) := by decide +kernel
theorem dX11_smell_14 : decode cX11_smell 14 = .ok (.iload_n 1, 1) := by decide +kernel
theorem dX11_smell_15 : decode cX11_smell 15 = .ok (.invokevirtual 253, 3) := by decide +kernel
theorem dX11_smell_18 : decode cX11_smell 18 = .ok (.goto 4, 3) := by decide +kernel
theorem dX11_smell_21 : decode cX11_smell 21 = .ok (.iconst (-1), 1) := by decide +kernel
theorem dX11_smell_22 : decode cX11_smell 22 = .ok (.ireturn, 1) := by decide +kernel
theorem dX11_line_0 : decode cX11_line 0 = .ok (.aload_n 0, 1) := by decide +kernel
theorem dX11_line_1 : decode cX11_line 1 = .ok (.getfield 29, 3) := by decide +kernel
theorem dX11_line_4 : decode cX11_line 4 = .ok (.invokevirtual 224, 3) := by decide +kernel
theorem dX11_line_7 : decode cX11_line 7 = .ok (.ifCond .le 13, 3) := by decide +kernel
theorem dX11_line_10 : decode cX11_line 10 = .ok (.aload_n 0, 1) := by decide +kernel
theorem dX11_line_11 : decode cX11_line 11 = .ok (.getfield 44, 3) := by decide +kernel
theorem dX11_line_14 : decode cX11_line 14 = .ok (.invokevirtual 256, 3) := by decide +kernel
theorem dX11_line_17 : decode cX11_line 17 = .ok (.goto 5, 3) := by decide +kernel
theorem dX11_line_20 : decode cX11_line 20 = .ok (.bipush (-4), 2) := by decide +kernel
theorem dX11_line_22 : decode cX11_line 22 = .ok (.ireturn, 1) := by decide +kernel
theorem dX11_cut_0 : decode cX11_cut 0 = .ok (.iload_n 1, 1) := by decide +kernel
theorem dX11_cut_1 : decode cX11_cut 1 = .ok (.iconst 1, 1) := by decide +kernel
theorem dX11_cut_2 : decode cX11_cut 2 = .ok (.bipush 48, 2) := by decide +kernel
theorem dX11_cut_4 : decode cX11_cut 4 = .ok (.invokestatic 103, 3) := by decide +kernel
theorem dX11_cut_7 : decode cX11_cut 7 = .ok (.ifCond .eq 15, 3) := by decide +kernel
theorem dX11_cut_10 : decode cX11_cut 10 = .ok (.aload_n 0, 1) := by decide +kernel
theorem dX11_cut_11 : decode cX11_cut 11 = .ok (.getfield 44, 3) := by decide +kernel
theorem dX11_cut_14 : decode cX11_cut 14 = .ok (.iload_n 1, 1) := by decide +kernel
theorem dX11_cut_15 : decode cX11_cut 15 = .ok (.iload_n 2, 1) := by decide +kernel
theorem dX11_cut_16 : decode cX11_cut 16 = .ok (.invokevirtual 259, 3) := by decide +kernel
theorem dX11_cut_19 : decode cX11_cut 19 = .ok (.goto 4, 3) := by decide +kernel
theorem dX11_cut_22 : decode cX11_cut 22 = .ok (.iconst (-1), 1) := by decide +kernel
theorem dX11_cut_23 : decode cX11_cut 23 = .ok (.ireturn, 1) := by decide +kernel
theorem dX11_ill_0 : decode cX11_ill 0 = .ok (.aload_n 0, 1) := by decide +kernel
theorem dX11_ill_1 : decode cX11_ill 1 = .ok (.getfield 44, 3) := by decide +kernel
theorem dX11_ill_4 : decode cX11_ill 4 = .ok (.iload_n 1, 1) := by decide +kernel
theorem dX11_ill_5 : decode cX11_ill 5 = .ok (.invokevirtual 129, 3) := by decide +kernel
theorem dX11_ill_8 : decode cX11_ill 8 = .ok (.ifCond .eq 12, 3) := by decide +kernel
theorem dX11_ill_11 : decode cX11_ill 11 = .ok (.iload_n 2, 1) := by decide +kernel
theorem dX11_ill_12 : decode cX11_ill 12 = .ok (.iconst 0, 1) := by decide +kernel
theorem dX11_ill_13 : decode cX11_ill 13 = .ok (.iconst 1, 1) := by decide +kernel
theorem dX11_ill_14 : decode cX11_ill 14 = .ok (.invokestatic 103, 3) := by decide +kernel
theorem dX11_ill_17 : decode cX11_ill 17 = .ok (.ifCond .ne 5, 3) := by decide +kernel
theorem dX11_ill_20 : decode cX11_ill 20 = .ok (.iconst (-1), 1) := by decide +kernel
theorem dX11_ill_21 : decode cX11_ill 21 = .ok (.ireturn, 1) := by decide +kernel
theorem dX11_ill_22 : decode cX11_ill 22 = .ok (.iconst 0, 1) := by decide +kernel
theorem dX11_ill_23 : decode cX11_ill 23 = .ok (.istore_n 3, 1) := by decide +kernel
theorem dX11_ill_24 : decode cX11_ill 24 = .ok (.iconst 0, 1) := by decide +kernel
theorem dX11_ill_25 : decode cX11_ill 25 = .ok (.istore 4, 2) := by decide +kernel
theorem dX11_ill_27 : decode cX11_ill 27 = .ok (.iload 4, 2) := by decide +kernel
theorem dX11_ill_29 : decode cX11_ill 29 = .ok (.aload_n 0, 1) := by decide +kernel
theorem dX11_ill_30 : decode cX11_ill 30 = .ok (.getfield 23, 3) := by decide +kernel
theorem dX11_ill_33 : decode cX11_ill 33 = .ok (.getfield 90, 3) := by decide +kernel
theorem dX11_ill_36 : decode cX11_ill 36 = .ok (.getfield 128, 3) := by decide +kernel
theorem dX11_ill_39 : decode cX11_ill 39 = .ok (.if_icmp .ge 21, 3) := by decide +kernel
theorem dX11_ill_42 : decode cX11_ill 42 = .ok (.iload_n 3, 1) := by decide +kernel
theorem dX11_ill_43 : decode cX11_ill 43 = .ok (.aload_n 0, 1) := by decide +kernel
theorem dX11_ill_44 : decode cX11_ill 44 = .ok (.getfield 44, 3) := by decide +kernel
theorem dX11_ill_47 : decode cX11_ill 47 = .ok (.iload 4, 2) := by decide +kernel
theorem dX11_ill_49 : decode cX11_ill 49 = .ok (.invokevirtual 263, 3) := by decide +kernel
theorem dX11_ill_52 : decode cX11_ill 52 = .ok (.iadd, 1) := by decide +kernel
theorem dX11_ill_53 : decode cX11_ill 53 = .ok (.istore_n 3, 1) := by decide +kernel
theorem dX11_ill_54 : decode cX11_ill 54 = .ok (.iinc 4 1, 3) := by decide +kernel
theorem dX11_ill_57 : decode cX11_ill 57 = .ok (.goto (-30), 3) := by decide +kernel
theorem dX11_ill_60 : decode cX11_ill 60 = .ok (.aload_n 0, 1) := by decide +kernel
theorem dX11_ill_61 : decode cX11_ill 61 = .ok (.getfield 44, 3) := by decide +kernel
theorem dX11_ill_64 : decode cX11_ill 64 = .ok (.iload_n 1, 1) := by decide +kernel
theorem dX11_ill_65 : decode cX11_ill 65 = .ok (.invokevirtual 263, 3) := by decide +kernel
theorem dX11_ill_68 : decode cX11_ill 68 = .ok (.istore 4, 2) := by decide +kernel
theorem dX11_ill_70 : decode cX11_ill 70 = .ok (.iload_n 3, 1) := by decide +kernel
theorem dX11_ill_71 : decode cX11_ill 71 = .ok (.iload 4, 2) := by decide +kernel
theorem dX11_ill_73 : decode cX11_ill 73 = .ok (.invokestatic 266, 3) := by decide +kernel
theorem dX11_ill_76 : decode cX11_ill 76 = .ok (.istore 5, 2) := by decide +kernel
theorem dX11_ill_78 : decode cX11_ill 78 = .ok (.iload_n 3, 1) := by decide +kernel
theorem dX11_ill_79 : decode cX11_ill 79 = .ok (.ifCond .le 8, 3) := by decide +kernel
theorem dX11_ill_82 : decode cX11_ill 82 = .ok (.iload 5, 2) := by decide +kernel
theorem dX11_ill_84 : decode cX11_ill 84 = .ok (.ifCond .gt 6, 3) := by decide +kernel
theorem dX11_ill_87 : decode cX11_ill 87 = .ok (.bipush (-4), 2) := by decide +kernel
theorem dX11_ill_89 : decode cX11_ill 89 = .ok (.ireturn, 1) := by decide +kernel
theorem dX11_ill_90 : decode cX11_ill 90 = .ok (.iload_n 2, 1) := by decide +kernel
theorem dX11_ill_91 : decode cX11_ill 91 = .ok (.ifCond .ne 11, 3) := by decide +kernel
theorem dX11_ill_94 : decode cX11_ill 94 = .ok (.iload 4, 2) := by decide +kernel
theorem dX11_ill_96 : decode cX11_ill 96 = .ok (.iload 5, 2) := by decide +kernel
theorem dX11_ill_98 : decode cX11_ill 98 = .ok (.idiv, 1) := by decide +kernel
theorem dX11_ill_99 : decode cX11_ill 99 = .ok (.goto 7, 3) := by decide +kernel
theorem dX11_ill_102 : decode cX11_ill 102 = .ok (.iload_n 3, 1) := by decide +kernel
theorem dX11_ill_103 : decode cX11_ill 103 = .ok (.iload 5, 2) := by decide +kernel
theorem dX11_ill_105 : decode cX11_ill 105 = .ok (.idiv, 1) := by decide +kernel
theorem dX11_ill_106 : decode cX11_ill 106 = .ok (.ireturn, 1) := by decide +kernel
theorem dX11_span_0 : decode cX11_span 0 = .ok (.iload_n 1, 1) := by decide +kernel
theorem dX11_span_1 : decode cX11_span 1 = .ok (.iconst 0, 1) := by decide +kernel
theorem dX11_span_2 : decode cX11_span 2 = .ok (.sipush 300, 3) := by decide +kernel
theorem dX11_span_5 : decode cX11_span 5 = .ok (.invokestatic 103, 3) := by decide +kernel
theorem dX11_span_8 : decode cX11_span 8 = .ok (.ifCond .eq 14, 3) := by decide +kernel
theorem dX11_span_11 : decode cX11_span 11 = .ok (.iload_n 2, 1) := by decide +kernel
theorem dX11_span_12 : decode cX11_span 12 = .ok (.iconst 1, 1) := by decide +kernel
theorem dX11_span_13 : decode cX11_span 13 = .ok (.sipush 300, 3) := by decide +kernel
theorem dX11_span_16 : decode cX11_span 16 = .ok (.invokestatic 103, 3) := by decide +kernel
theorem dX11_span_19 : decode cX11_span 19 = .ok (.ifCond .ne 5, 3) := by decide +kernel
theorem dX11_span_22 : decode cX11_span 22 = .ok (.iconst (-1), 1) := by decide +kernel
theorem dX11_span_23 : decode cX11_span 23 = .ok (.ireturn, 1) := by decide +kernel
theorem dX11_span_24 : decode cX11_span 24 = .ok (.aload_n 0, 1) := by decide +kernel
theorem dX11_span_25 : decode cX11_span 25 = .ok (.getfield 76, 3) := by decide +kernel
theorem dX11_span_28 : decode cX11_span 28 = .ok (.iload_n 1, 1) := by decide +kernel
theorem dX11_span_29 : decode cX11_span 29 = .ok (.iload_n 2, 1) := by decide +kernel
theorem dX11_span_30 : decode cX11_span 30 = .ok (.invokevirtual 269, 3) := by decide +kernel
theorem dX11_span_33 : decode cX11_span 33 = .ok (.ifCond .eq 13, 3) := by decide +kernel
theorem dX11_span_36 : decode cX11_span 36 = .ok (.aload_n 0, 1) := by decide +kernel
theorem dX11_span_37 : decode cX11_span 37 = .ok (.getfield 76, 3) := by decide +kernel
theorem dX11_span_40 : decode cX11_span 40 = .ok (.getfield 122, 3) := by decide +kernel
theorem dX11_span_43 : decode cX11_span 43 = .ok (.goto 5, 3) := by decide +kernel
theorem dX11_span_46 : decode cX11_span 46 = .ok (.bipush (-3), 2) := by decide +kernel
theorem dX11_span_48 : decode cX11_span 48 = .ok (.ireturn, 1) := by decide +kernel
theorem dX11_noSpans_0 : decode cX11_noSpans 0 = .ok (.aload_n 0, 1) := by decide +kernel
theorem dX11_noSpans_1 : decode cX11_noSpans 1 = .ok (.getfield 76, 3) := by decide +kernel
theorem dX11_noSpans_4 : decode cX11_noSpans 4 = .ok (.getfield 122, 3) := by decide +kernel
theorem dX11_noSpans_7 : decode cX11_noSpans 7 = .ok (.istore_n 1, 1) := by decide +kernel
theorem dX11_noSpans_8 : decode cX11_noSpans 8 = .ok (.aload_n 0, 1) := by decide +kernel
theorem dX11_noSpans_9 : decode cX11_noSpans 9 = .ok (.getfield 76, 3) := by decide +kernel
theorem dX11_noSpans_12 : decode cX11_noSpans 12 = .ok (.iconst 0, 1) := by decide +kernel
theorem dX11_noSpans_13 : decode cX11_noSpans 13 = .ok (.putfield 122, 3) := by decide +kernel
theorem dX11_noSpans_16 : decode cX11_noSpans 16 = .ok (.iload_n 1, 1) := by decide +kernel
theorem dX11_noSpans_17 : decode cX11_noSpans 17 = .ok (.ireturn, 1) := by decide +kernel
theorem dX11_law_0 : decode cX11_law 0 = .ok (.iload_n 1, 1) := by decide +kernel
theorem dX11_law_1 : decode cX11_law 1 = .ok (.iconst 0, 1) := by decide +kernel
theorem dX11_law_2 : decode cX11_law 2 = .ok (.iconst 1, 1) := by decide +kernel
theorem dX11_law_3 : decode cX11_law 3 = .ok (.invokestatic 103, 3) := by decide +kernel
theorem dX11_law_6 : decode cX11_law 6 = .ok (.ifCond .ne 5, 3) := by decide +kernel
theorem dX11_law_9 : decode cX11_law 9 = .ok (.iconst (-1), 1) := by decide +kernel
theorem dX11_law_10 : decode cX11_law 10 = .ok (.ireturn, 1) := by decide +kernel
theorem dX11_law_11 : decode cX11_law 11 = .ok (.aload_n 0, 1) := by decide +kernel
theorem dX11_law_12 : decode cX11_law 12 = .ok (.getfield 76, 3) := by decide +kernel
theorem dX11_law_15 : decode cX11_law 15 = .ok (.invokevirtual 271, 3) := by decide +kernel
theorem dX11_law_18 : decode cX11_law 18 = .ok (.istore_n 2, 1) := by decide +kernel
theorem dX11_law_19 : decode cX11_law 19 = .ok (.iload_n 1, 1) := by decide +kernel
theorem dX11_law_20 : decode cX11_law 20 = .ok (.ifCond .ne 14, 3) := by decide +kernel
theorem dX11_law_23 : decode cX11_law 23 = .ok (.aload_n 0, 1) := by decide +kernel
theorem dX11_law_24 : decode cX11_law 24 = .ok (.getfield 76, 3) := by decide +kernel
theorem dX11_law_27 : decode cX11_law 27 = .ok (.iload_n 2, 1) := by decide +kernel
theorem dX11_law_28 : decode cX11_law 28 = .ok (.invokevirtual 274, 3) := by decide +kernel
theorem dX11_law_31 : decode cX11_law 31 = .ok (.goto 4, 3) := by decide +kernel
theorem dX11_law_34 : decode cX11_law 34 = .ok (.iload_n 2, 1) := by decide +kernel
theorem dX11_law_35 : decode cX11_law 35 = .ok (.ireturn, 1) := by decide +kernel
theorem dX11_habit_0 : decode cX11_habit 0 = .ok (.iload_n 1, 1) := by decide +kernel
theorem dX11_habit_1 : decode cX11_habit 1 = .ok (.iconst 0, 1) := by decide +kernel
theorem dX11_habit_2 : decode cX11_habit 2 = .ok (.sipush 9999, 3) := by decide +kernel
theorem dX11_habit_5 : decode cX11_habit 5 = .ok (.invokestatic 103, 3) := by decide +kernel
theorem dX11_habit_8 : decode cX11_habit 8 = .ok (.ifCond .eq 22, 3) := by decide +kernel
theorem dX11_habit_11 : decode cX11_habit 11 = .ok (.iload_n 2, 1) := by decide +kernel
theorem dX11_habit_12 : decode cX11_habit 12 = .ok (.iconst 1, 1) := by decide +kernel
theorem dX11_habit_13 : decode cX11_habit 13 = .ok (.bipush 20, 2) := by decide +kernel
theorem dX11_habit_15 : decode cX11_habit 15 = .ok (.invokestatic 103, 3) := by decide +kernel
theorem dX11_habit_18 : decode cX11_habit 18 = .ok (.ifCond .eq 12, 3) := by decide +kernel
theorem dX11_habit_21 : decode cX11_habit 21 = .ok (.iload_n 3, 1) := by decide +kernel
theorem dX11_habit_22 : decode cX11_habit 22 = .ok (.iconst 0, 1) := by decide +kernel
theorem dX11_habit_23 : decode cX11_habit 23 = .ok (.iconst 1, 1) := by decide +kernel
theorem dX11_habit_24 : decode cX11_habit 24 = .ok (.invokestatic 103, 3) := by decide +kernel
theorem dX11_habit_27 : decode cX11_habit 27 = .ok (.ifCond .ne 5, 3) := by decide +kernel
theorem dX11_habit_30 : decode cX11_habit 30 = .ok (.iconst (-1), 1) := by decide +kernel
theorem dX11_habit_31 : decode cX11_habit 31 = .ok (.ireturn, 1) := by decide +kernel
theorem dX11_habit_32 : decode cX11_habit 32 = .ok (.aload_n 0, 1) := by decide +kernel
theorem dX11_habit_33 : decode cX11_habit 33 = .ok (.getfield 53, 3) := by decide +kernel
theorem dX11_habit_36 : decode cX11_habit 36 = .ok (.iload_n 1, 1) := by decide +kernel
theorem dX11_habit_37 : decode cX11_habit 37 = .ok (.iload_n 2, 1) := by decide +kernel
theorem dX11_habit_38 : decode cX11_habit 38 = .ok (.iload_n 3, 1) := by decide +kernel
theorem dX11_habit_39 : decode cX11_habit 39 = .ok (.invokevirtual 277, 3) := by decide +kernel
theorem dX11_habit_42 : decode cX11_habit 42 = .ok (.ireturn, 1) := by decide +kernel
theorem dX11_keep_0 : decode cX11_keep 0 = .ok (.aload_n 0, 1) := by decide +kernel
theorem dX11_keep_1 : decode cX11_keep 1 = .ok (.getfield 125, 3) := by decide +kernel
theorem dX11_keep_4 : decode cX11_keep 4 = .ok (.iconst 2, 1) := by decide +kernel
theorem dX11_keep_5 : decode cX11_keep 5 = .ok (.if_icmp .lt 6, 3) := by decide +kernel
theorem dX11_keep_8 : decode cX11_keep 8 = .ok (.bipush (-3), 2) := by decide +kernel
theorem dX11_keep_10 : decode cX11_keep 10 = .ok (.ireturn, 1) := by decide +kernel
theorem dX11_keep_11 : decode cX11_keep 11 = .ok (.aload_n 0, 1) := by decide +kernel
theorem dX11_keep_12 : decode cX11_keep 12 = .ok (.getfield 125, 3) := by decide +kernel
theorem dX11_keep_15 : decode cX11_keep 15 = .ok (.ifCond .ne 10, 3) := by decide +kernel
theorem dX11_keep_18 : decode cX11_keep 18 = .ok (.aload_n 0, 1) := by decide +kernel
theorem dX11_keep_19 : decode cX11_keep 19 = .ok (.getfield 33, 3) := by decide +kernel
theorem dX11_keep_22 : decode cX11_keep 22 = .ok (.goto 7, 3) := by decide +kernel
theorem dX11_keep_25 : decode cX11_keep 25 = .ok (.aload_n 0, 1) := by decide +kernel
theorem dX11_keep_26 : decode cX11_keep 26 = .ok (.getfield 36, 3) := by decide +kernel
theorem dX11_keep_29 : decode cX11_keep 29 = .ok (.aload_n 0, 1) := by decide +kernel
theorem dX11_keep_30 : decode cX11_keep 30 = .ok (.getfield 29, 3) := by decide +kernel
theorem dX11_keep_33 : decode cX11_keep 33 = .ok (.invokevirtual 280, 3) := by decide +kernel
theorem dX11_keep_36 : decode cX11_keep 36 = .ok (.aload_n 0, 1) := by decide +kernel
theorem dX11_keep_37 : decode cX11_keep 37 = .ok (.dup, 1) := by decide +kernel
theorem dX11_keep_38 : decode cX11_keep 38 = .ok (.getfield 125, 3) := by decide +kernel
theorem dX11_keep_41 : decode cX11_keep 41 = .ok (.iconst 1, 1) := by decide +kernel
theorem dX11_keep_42 : decode cX11_keep 42 = .ok (.iadd, 1) := by decide +kernel
theorem dX11_keep_43 : decode cX11_keep 43 = .ok (.putfield 125, 3) := by decide +kernel
theorem dX11_keep_46 : decode cX11_keep 46 = .ok (.aload_n 0, 1) := by decide +kernel
theorem dX11_keep_47 : decode cX11_keep 47 = .ok (.getfield 125, 3) := by decide +kernel
theorem dX11_keep_50 : decode cX11_keep 50 = .ok (.ireturn, 1) := by decide +kernel
theorem dX11_back_0 : decode cX11_back 0 = .ok (.aload_n 0, 1) := by decide +kernel
theorem dX11_back_1 : decode cX11_back 1 = .ok (.getfield 125, 3) := by decide +kernel
theorem dX11_back_4 : decode cX11_back 4 = .ok (.ifCond .gt 6, 3) := by decide +kernel
theorem dX11_back_7 : decode cX11_back 7 = .ok (.bipush (-2), 2) := by decide +kernel
theorem dX11_back_9 : decode cX11_back 9 = .ok (.ireturn, 1) := by decide +kernel
theorem dX11_back_10 : decode cX11_back 10 = .ok (.aload_n 0, 1) := by decide +kernel
theorem dX11_back_11 : decode cX11_back 11 = .ok (.dup, 1) := by decide +kernel
theorem dX11_back_12 : decode cX11_back 12 = .ok (.getfield 125, 3) := by decide +kernel
theorem dX11_back_15 : decode cX11_back 15 = .ok (.iconst 1, 1) := by decide +kernel
theorem dX11_back_16 : decode cX11_back 16 = .ok (.isub, 1) := by decide +kernel
theorem dX11_back_17 : decode cX11_back 17 = .ok (.putfield 125, 3) := by decide +kernel
theorem dX11_back_20 : decode cX11_back 20 = .ok (.aload_n 0, 1) := by decide +kernel
theorem dX11_back_21 : decode cX11_back 21 = .ok (.getfield 29, 3) := by decide +kernel
theorem dX11_back_24 : decode cX11_back 24 = .ok (.aload_n 0, 1) := by decide +kernel
theorem dX11_back_25 : decode cX11_back 25 = .ok (.getfield 125, 3) := by decide +kernel
theorem dX11_back_28 : decode cX11_back 28 = .ok (.ifCond .ne 10, 3) := by decide +kernel
theorem dX11_back_31 : decode cX11_back 31 = .ok (.aload_n 0, 1) := by decide +kernel
theorem dX11_back_32 : decode cX11_back 32 = .ok (.getfield 33, 3) := by decide +kernel
theorem dX11_back_35 : decode cX11_back 35 = .ok (.goto 7, 3) := by decide +kernel
theorem dX11_back_38 : decode cX11_back 38 = .ok (.aload_n 0, 1) := by decide +kernel
theorem dX11_back_39 : decode cX11_back 39 = .ok (.getfield 36, 3) := by decide +kernel
theorem dX11_back_42 : decode cX11_back 42 = .ok (.invokevirtual 280, 3) := by decide +kernel
theorem dX11_back_45 : decode cX11_back 45 = .ok (.aload_n 0, 1) := by decide +kernel
theorem dX11_back_46 : decode cX11_back 46 = .ok (.getfield 125, 3) := by decide +kernel
theorem dX11_back_49 : decode cX11_back 49 = .ok (.ireturn, 1) := by decide +kernel
theorem dX11_count_0 : decode cX11_count 0 = .ok (.iload_n 1, 1) := by decide +kernel
theorem dX11_count_1 : decode cX11_count 1 = .ok (.tableswitch 141 0 9 #[55, 66, 77, 85, 93, 104, 112, 120, 128, 136], 55) := by decide +kernel
theorem dX11_count_56 : decode cX11_count 56 = .ok (.aload_n 0, 1) := by decide +kernel
theorem dX11_count_57 : decode cX11_count 57 = .ok (.getfield 23, 3) := by decide +kernel
theorem dX11_count_60 : decode cX11_count 60 = .ok (.getfield 90, 3) := by decide +kernel
theorem dX11_count_63 : decode cX11_count 63 = .ok (.getfield 128, 3) := by decide +kernel
theorem dX11_count_66 : decode cX11_count 66 = .ok (.ireturn, 1) := by decide +kernel
theorem dX11_count_67 : decode cX11_count 67 = .ok (.aload_n 0, 1) := by decide +kernel
theorem dX11_count_68 : decode cX11_count 68 = .ok (.getfield 23, 3) := by decide +kernel
theorem dX11_count_71 : decode cX11_count 71 = .ok (.getfield 80, 3) := by decide +kernel
theorem dX11_count_74 : decode cX11_count 74 = .ok (.getfield 284, 3) := by decide +kernel
theorem dX11_count_77 : decode cX11_count 77 = .ok (.ireturn, 1) := by decide +kernel
theorem dX11_count_78 : decode cX11_count 78 = .ok (.aload_n 0, 1) := by decide +kernel
theorem dX11_count_79 : decode cX11_count 79 = .ok (.getfield 23, 3) := by decide +kernel
theorem dX11_count_82 : decode cX11_count 82 = .ok (.getfield 285, 3) := by decide +kernel
theorem dX11_count_85 : decode cX11_count 85 = .ok (.ireturn, 1) := by decide +kernel
theorem dX11_count_86 : decode cX11_count 86 = .ok (.aload_n 0, 1) := by decide +kernel
theorem dX11_count_87 : decode cX11_count 87 = .ok (.getfield 23, 3) := by decide +kernel
theorem dX11_count_90 : decode cX11_count 90 = .ok (.getfield 288, 3) := by decide +kernel
theorem dX11_count_93 : decode cX11_count 93 = .ok (.ireturn, 1) := by decide +kernel
theorem dX11_count_94 : decode cX11_count 94 = .ok (.aload_n 0, 1) := by decide +kernel
theorem dX11_count_95 : decode cX11_count 95 = .ok (.getfield 23, 3) := by decide +kernel
theorem dX11_count_98 : decode cX11_count 98 = .ok (.getfield 236, 3) := by decide +kernel
theorem dX11_count_101 : decode cX11_count 101 = .ok (.getfield 240, 3) := by decide +kernel
theorem dX11_count_104 : decode cX11_count 104 = .ok (.ireturn, 1) := by decide +kernel
theorem dX11_count_105 : decode cX11_count 105 = .ok (.aload_n 0, 1) := by decide +kernel
theorem dX11_count_106 : decode cX11_count 106 = .ok (.getfield 76, 3) := by decide +kernel
theorem dX11_count_109 : decode cX11_count 109 = .ok (.getfield 122, 3) := by decide +kernel
theorem dX11_count_112 : decode cX11_count 112 = .ok (.ireturn, 1) := by decide +kernel
theorem dX11_count_113 : decode cX11_count 113 = .ok (.aload_n 0, 1) := by decide +kernel
theorem dX11_count_114 : decode cX11_count 114 = .ok (.getfield 29, 3) := by decide +kernel
theorem dX11_count_117 : decode cX11_count 117 = .ok (.getfield 163, 3) := by decide +kernel
theorem dX11_count_120 : decode cX11_count 120 = .ok (.ireturn, 1) := by decide +kernel
theorem dX11_count_121 : decode cX11_count 121 = .ok (.aload_n 0, 1) := by decide +kernel
theorem dX11_count_122 : decode cX11_count 122 = .ok (.getfield 29, 3) := by decide +kernel
theorem dX11_count_125 : decode cX11_count 125 = .ok (.invokevirtual 224, 3) := by decide +kernel
theorem dX11_count_128 : decode cX11_count 128 = .ok (.ireturn, 1) := by decide +kernel
theorem dX11_count_129 : decode cX11_count 129 = .ok (.aload_n 0, 1) := by decide +kernel
theorem dX11_count_130 : decode cX11_count 130 = .ok (.getfield 10, 3) := by decide +kernel
theorem dX11_count_133 : decode cX11_count 133 = .ok (.getfield 110, 3) := by decide +kernel
theorem dX11_count_136 : decode cX11_count 136 = .ok (.ireturn, 1) := by decide +kernel
theorem dX11_count_137 : decode cX11_count 137 = .ok (.aload_n 0, 1) := by decide +kernel
theorem dX11_count_138 : decode cX11_count 138 = .ok (.getfield 125, 3) := by decide +kernel
theorem dX11_count_141 : decode cX11_count 141 = .ok (.ireturn, 1) := by decide +kernel
theorem dX11_count_142 : decode cX11_count 142 = .ok (.iconst (-1), 1) := by decide +kernel
theorem dX11_count_143 : decode cX11_count 143 = .ok (.ireturn, 1) := by decide +kernel
theorem dX11_takeAway_0 : decode cX11_takeAway 0 = .ok (.aload_n 0, 1) := by decide +kernel
theorem dX11_takeAway_1 : decode cX11_takeAway 1 = .ok (.getfield 44, 3) := by decide +kernel
theorem dX11_takeAway_4 : decode cX11_takeAway 4 = .ok (.iload_n 1, 1) := by decide +kernel
theorem dX11_takeAway_5 : decode cX11_takeAway 5 = .ok (.invokevirtual 129, 3) := by decide +kernel
theorem dX11_takeAway_8 : decode cX11_takeAway 8 = .ok (.ifCond .ne 5, 3) := by decide +kernel
theorem dX11_takeAway_11 : decode cX11_takeAway 11 = .ok (.iconst (-1), 1) := by decide +kernel
theorem dX11_takeAway_12 : decode cX11_takeAway 12 = .ok (.ireturn, 1) := by decide +kernel
theorem dX11_takeAway_13 : decode cX11_takeAway 13 = .ok (.aload_n 0, 1) := by decide +kernel
theorem dX11_takeAway_14 : decode cX11_takeAway 14 = .ok (.getfield 29, 3) := by decide +kernel
theorem dX11_takeAway_17 : decode cX11_takeAway 17 = .ok (.iload_n 1, 1) := by decide +kernel
theorem dX11_takeAway_18 : decode cX11_takeAway 18 = .ok (.invokevirtual 179, 3) := by decide +kernel
theorem dX11_takeAway_21 : decode cX11_takeAway 21 = .ok (.ifCond .ne 6, 3) := by decide +kernel
theorem dX11_takeAway_24 : decode cX11_takeAway 24 = .ok (.bipush (-2), 2) := by decide +kernel
theorem dX11_takeAway_26 : decode cX11_takeAway 26 = .ok (.ireturn, 1) := by decide +kernel
theorem dX11_takeAway_27 : decode cX11_takeAway 27 = .ok (.aload_n 0, 1) := by decide +kernel
theorem dX11_takeAway_28 : decode cX11_takeAway 28 = .ok (.getfield 29, 3) := by decide +kernel
theorem dX11_takeAway_31 : decode cX11_takeAway 31 = .ok (.iload_n 1, 1) := by decide +kernel
theorem dX11_takeAway_32 : decode cX11_takeAway 32 = .ok (.iload_n 2, 1) := by decide +kernel
theorem dX11_takeAway_33 : decode cX11_takeAway 33 = .ok (.invokevirtual 291, 3) := by decide +kernel
theorem dX11_takeAway_36 : decode cX11_takeAway 36 = .ok (.aload_n 0, 1) := by decide +kernel
theorem dX11_takeAway_37 : decode cX11_takeAway 37 = .ok (.getfield 44, 3) := by decide +kernel
theorem dX11_takeAway_40 : decode cX11_takeAway 40 = .ok (.iload_n 1, 1) := by decide +kernel
theorem dX11_takeAway_41 : decode cX11_takeAway 41 = .ok (.invokevirtual 149, 3) := by decide +kernel
theorem dX11_takeAway_44 : decode cX11_takeAway 44 = .ok (.ifCond .eq 7, 3) := by decide +kernel
theorem dX11_takeAway_47 : decode cX11_takeAway 47 = .ok (.iconst 1, 1) := by decide +kernel
theorem dX11_takeAway_48 : decode cX11_takeAway 48 = .ok (.goto 4, 3) := by decide +kernel
theorem dX11_takeAway_51 : decode cX11_takeAway 51 = .ok (.iconst 0, 1) := by decide +kernel
theorem dX11_takeAway_52 : decode cX11_takeAway 52 = .ok (.ireturn, 1) := by decide +kernel
theorem dX11_canBecome_0 : decode cX11_canBecome 0 = .ok (.iload_n 1, 1) := by decide +kernel
theorem dX11_canBecome_1 : decode cX11_canBecome 1 = .ok (.tableswitch 78 0 3 #[31, 42, 52, 67], 31) := by decide +kernel
theorem dX11_canBecome_32 : decode cX11_canBecome 32 = .ok (.iload_n 0, 1) := by decide +kernel
theorem dX11_canBecome_33 : decode cX11_canBecome 33 = .ok (.iconst 3, 1) := by decide +kernel
theorem dX11_canBecome_34 : decode cX11_canBecome 34 = .ok (.if_icmp .ne 7, 3) := by decide +kernel
theorem dX11_canBecome_37 : decode cX11_canBecome 37 = .ok (.iconst 1, 1) := by decide +kernel
theorem dX11_canBecome_38 : decode cX11_canBecome 38 = .ok (.goto 4, 3) := by decide +kernel
theorem dX11_canBecome_41 : decode cX11_canBecome 41 = .ok (.iconst 0, 1) := by decide +kernel
theorem dX11_canBecome_42 : decode cX11_canBecome 42 = .ok (.ireturn, 1) := by decide +kernel
theorem dX11_canBecome_43 : decode cX11_canBecome 43 = .ok (.iload_n 0, 1) := by decide +kernel
theorem dX11_canBecome_44 : decode cX11_canBecome 44 = .ok (.ifCond .ne 7, 3) := by decide +kernel
theorem dX11_canBecome_47 : decode cX11_canBecome 47 = .ok (.iconst 1, 1) := by decide +kernel
theorem dX11_canBecome_48 : decode cX11_canBecome 48 = .ok (.goto 4, 3) := by decide +kernel
theorem dX11_canBecome_51 : decode cX11_canBecome 51 = .ok (.iconst 0, 1) := by decide +kernel
theorem dX11_canBecome_52 : decode cX11_canBecome 52 = .ok (.ireturn, 1) := by decide +kernel
theorem dX11_canBecome_53 : decode cX11_canBecome 53 = .ok (.iload_n 0, 1) := by decide +kernel
theorem dX11_canBecome_54 : decode cX11_canBecome 54 = .ok (.ifCond .eq 8, 3) := by decide +kernel
theorem dX11_canBecome_57 : decode cX11_canBecome 57 = .ok (.iload_n 0, 1) := by decide +kernel
theorem dX11_canBecome_58 : decode cX11_canBecome 58 = .ok (.iconst 1, 1) := by decide +kernel
theorem dX11_canBecome_59 : decode cX11_canBecome 59 = .ok (.if_icmp .ne 7, 3) := by decide +kernel
theorem dX11_canBecome_62 : decode cX11_canBecome 62 = .ok (.iconst 1, 1) := by decide +kernel
theorem dX11_canBecome_63 : decode cX11_canBecome 63 = .ok (.goto 4, 3) := by decide +kernel
theorem dX11_canBecome_66 : decode cX11_canBecome 66 = .ok (.iconst 0, 1) := by decide +kernel
theorem dX11_canBecome_67 : decode cX11_canBecome 67 = .ok (.ireturn, 1) := by decide +kernel
theorem dX11_canBecome_68 : decode cX11_canBecome 68 = .ok (.iload_n 0, 1) := by decide +kernel
theorem dX11_canBecome_69 : decode cX11_canBecome 69 = .ok (.iconst 3, 1) := by decide +kernel
theorem dX11_canBecome_70 : decode cX11_canBecome 70 = .ok (.if_icmp .eq 7, 3) := by decide +kernel
theorem dX11_canBecome_73 : decode cX11_canBecome 73 = .ok (.iconst 1, 1) := by decide +kernel
theorem dX11_canBecome_74 : decode cX11_canBecome 74 = .ok (.goto 4, 3) := by decide +kernel
theorem dX11_canBecome_77 : decode cX11_canBecome 77 = .ok (.iconst 0, 1) := by decide +kernel
theorem dX11_canBecome_78 : decode cX11_canBecome 78 = .ok (.ireturn, 1) := by decide +kernel
theorem dX11_canBecome_79 : decode cX11_canBecome 79 = .ok (.iconst 0, 1) := by decide +kernel
theorem dX11_canBecome_80 : decode cX11_canBecome 80 = .ok (.ireturn, 1) := by decide +kernel
theorem dX11_isWithin_0 : decode cX11_isWithin 0 = .ok (.iload_n 0, 1) := by decide +kernel
theorem dX11_isWithin_1 : decode cX11_isWithin 1 = .ok (.iload_n 1, 1) := by decide +kernel
theorem dX11_isWithin_2 : decode cX11_isWithin 2 = .ok (.if_icmp .lt 12, 3) := by decide +kernel
theorem dX11_isWithin_5 : decode cX11_isWithin 5 = .ok (.iload_n 0, 1) := by decide +kernel
theorem dX11_isWithin_6 : decode cX11_isWithin 6 = .ok (.iload_n 2, 1) := by decide +kernel
theorem dX11_isWithin_7 : decode cX11_isWithin 7 = .ok (.if_icmp .gt 7, 3) := by decide +kernel
theorem dX11_isWithin_10 : decode cX11_isWithin 10 = .ok (.iconst 1, 1) := by decide +kernel
theorem dX11_isWithin_11 : decode cX11_isWithin 11 = .ok (.goto 4, 3) := by decide +kernel
theorem dX11_isWithin_14 : decode cX11_isWithin 14 = .ok (.iconst 0, 1) := by decide +kernel
theorem dX11_isWithin_15 : decode cX11_isWithin 15 = .ok (.ireturn, 1) := by decide +kernel
theorem dX11_at_0 : decode cX11_at 0 = .ok (.iload_n 1, 1) := by decide +kernel
theorem dX11_at_1 : decode cX11_at 1 = .ok (.ifCond .lt 15, 3) := by decide +kernel
theorem dX11_at_4 : decode cX11_at 4 = .ok (.iload_n 1, 1) := by decide +kernel
theorem dX11_at_5 : decode cX11_at 5 = .ok (.aload_n 0, 1) := by decide +kernel
theorem dX11_at_6 : decode cX11_at 6 = .ok (.arraylength, 1) := by decide +kernel
theorem dX11_at_7 : decode cX11_at 7 = .ok (.if_icmp .ge 9, 3) := by decide +kernel
theorem dX11_at_10 : decode cX11_at 10 = .ok (.aload_n 0, 1) := by decide +kernel
theorem dX11_at_11 : decode cX11_at 11 = .ok (.iload_n 1, 1) := by decide +kernel
theorem dX11_at_12 : decode cX11_at 12 = .ok (.iaload, 1) := by decide +kernel
theorem dX11_at_13 : decode cX11_at 13 = .ok (.goto 4, 3) := by decide +kernel
theorem dX11_at_16 : decode cX11_at 16 = .ok (.iconst 0, 1) := by decide +kernel
theorem dX11_at_17 : decode cX11_at 17 = .ok (.ireturn, 1) := by decide +kernel
theorem dX11_put_0 : decode cX11_put 0 = .ok (.iload_n 1, 1) := by decide +kernel
theorem dX11_put_1 : decode cX11_put 1 = .ok (.ifCond .lt 13, 3) := by decide +kernel
theorem dX11_put_4 : decode cX11_put 4 = .ok (.iload_n 1, 1) := by decide +kernel
theorem dX11_put_5 : decode cX11_put 5 = .ok (.aload_n 0, 1) := by decide +kernel
theorem dX11_put_6 : decode cX11_put 6 = .ok (.arraylength, 1) := by decide +kernel
theorem dX11_put_7 : decode cX11_put 7 = .ok (.if_icmp .ge 7, 3) := by decide +kernel
theorem dX11_put_10 : decode cX11_put 10 = .ok (.aload_n 0, 1) := by decide +kernel
theorem dX11_put_11 : decode cX11_put 11 = .ok (.iload_n 1, 1) := by decide +kernel
theorem dX11_put_12 : decode cX11_put 12 = .ok (.iload_n 2, 1) := by decide +kernel
theorem dX11_put_13 : decode cX11_put 13 = .ok (.iastore, 1) := by decide +kernel
theorem dX11_put_14 : decode cX11_put 14 = .ok (.return_, 1) := by decide +kernel
theorem dX11_hasBit_0 : decode cX11_hasBit 0 = .ok (.iload_n 0, 1) := by decide +kernel
theorem dX11_hasBit_1 : decode cX11_hasBit 1 = .ok (.iload_n 1, 1) := by decide +kernel
theorem dX11_hasBit_2 : decode cX11_hasBit 2 = .ok (.ishr, 1) := by decide +kernel
theorem dX11_hasBit_3 : decode cX11_hasBit 3 = .ok (.iconst 1, 1) := by decide +kernel
theorem dX11_hasBit_4 : decode cX11_hasBit 4 = .ok (.iand, 1) := by decide +kernel
theorem dX11_hasBit_5 : decode cX11_hasBit 5 = .ok (.iconst 1, 1) := by decide +kernel
theorem dX11_hasBit_6 : decode cX11_hasBit 6 = .ok (.if_icmp .ne 7, 3) := by decide +kernel
theorem dX11_hasBit_9 : decode cX11_hasBit 9 = .ok (.iconst 1, 1) := by decide +kernel
theorem dX11_hasBit_10 : decode cX11_hasBit 10 = .ok (.goto 4, 3) := by decide +kernel
theorem dX11_hasBit_13 : decode cX11_hasBit 13 = .ok (.iconst 0, 1) := by decide +kernel
theorem dX11_hasBit_14 : decode cX11_hasBit 14 = .ok (.ireturn, 1) := by decide +kernel
theorem dX11_greatestDivisor_0 : decode cX11_greatestDivisor 0 = .ok (.iload_n 0, 1) := by decide +kernel
theorem dX11_greatestDivisor_1 : decode cX11_greatestDivisor 1 = .ok (.istore_n 2, 1) := by decide +kernel
theorem dX11_greatestDivisor_2 : decode cX11_greatestDivisor 2 = .ok (.iload_n 1, 1) := by decide +kernel
theorem dX11_greatestDivisor_3 : decode cX11_greatestDivisor 3 = .ok (.istore_n 3, 1) := by decide +kernel
theorem dX11_greatestDivisor_4 : decode cX11_greatestDivisor 4 = .ok (.iconst 0, 1) := by decide +kernel
theorem dX11_greatestDivisor_5 : decode cX11_greatestDivisor 5 = .ok (.istore 4, 2) := by decide +kernel
theorem dX11_greatestDivisor_7 : decode cX11_greatestDivisor 7 = .ok (.iload 4, 2) := by decide +kernel
theorem dX11_greatestDivisor_9 : decode cX11_greatestDivisor 9 = .ok (.bipush 64, 2) := by decide +kernel
theorem dX11_greatestDivisor_11 : decode cX11_greatestDivisor 11 = .ok (.if_icmp .ge 23, 3) := by decide +kernel
theorem dX11_greatestDivisor_14 : decode cX11_greatestDivisor 14 = .ok (.iload_n 3, 1) := by decide +kernel
theorem dX11_greatestDivisor_15 : decode cX11_greatestDivisor 15 = .ok (.ifCond .eq 19, 3) := by decide +kernel
theorem dX11_greatestDivisor_18 : decode cX11_greatestDivisor 18 = .ok (.iload_n 2, 1) := by decide +kernel
theorem dX11_greatestDivisor_19 : decode cX11_greatestDivisor 19 = .ok (.iload_n 3, 1) := by decide +kernel
theorem dX11_greatestDivisor_20 : decode cX11_greatestDivisor 20 = .ok (.irem, 1) := by decide +kernel
theorem dX11_greatestDivisor_21 : decode cX11_greatestDivisor 21 = .ok (.istore 5, 2) := by decide +kernel
theorem dX11_greatestDivisor_23 : decode cX11_greatestDivisor 23 = .ok (.iload_n 3, 1) := by decide +kernel
theorem dX11_greatestDivisor_24 : decode cX11_greatestDivisor 24 = .ok (.istore_n 2, 1) := by decide +kernel
theorem dX11_greatestDivisor_25 : decode cX11_greatestDivisor 25 = .ok (.iload 5, 2) := by decide +kernel
theorem dX11_greatestDivisor_27 : decode cX11_greatestDivisor 27 = .ok (.istore_n 3, 1) := by decide +kernel
theorem dX11_greatestDivisor_28 : decode cX11_greatestDivisor 28 = .ok (.iinc 4 1, 3) := by decide +kernel
theorem dX11_greatestDivisor_31 : decode cX11_greatestDivisor 31 = .ok (.goto (-24), 3) := by decide +kernel
theorem dX11_greatestDivisor_34 : decode cX11_greatestDivisor 34 = .ok (.iload_n 2, 1) := by decide +kernel
theorem dX11_greatestDivisor_35 : decode cX11_greatestDivisor 35 = .ok (.ireturn, 1) := by decide +kernel
theorem dX11_ageing_0 : decode cX11_ageing 0 = .ok (.iload_n 0, 1) := by decide +kernel
theorem dX11_ageing_1 : decode cX11_ageing 1 = .ok (.iconst 3, 1) := by decide +kernel
theorem dX11_ageing_2 : decode cX11_ageing 2 = .ok (.if_icmp .ne 5, 3) := by decide +kernel
theorem dX11_ageing_5 : decode cX11_ageing 5 = .ok (.iload_n 1, 1) := by decide +kernel
theorem dX11_ageing_6 : decode cX11_ageing 6 = .ok (.ireturn, 1) := by decide +kernel
theorem dX11_ageing_7 : decode cX11_ageing 7 = .ok (.bipush 10, 2) := by decide +kernel
theorem dX11_ageing_9 : decode cX11_ageing 9 = .ok (.iload_n 1, 1) := by decide +kernel
theorem dX11_ageing_10 : decode cX11_ageing 10 = .ok (.imul, 1) := by decide +kernel
theorem dX11_ageing_11 : decode cX11_ageing 11 = .ok (.iload_n 2, 1) := by decide +kernel
theorem dX11_ageing_12 : decode cX11_ageing 12 = .ok (.iadd, 1) := by decide +kernel
theorem dX11_ageing_13 : decode cX11_ageing 13 = .ok (.istore_n 3, 1) := by decide +kernel
theorem dX11_ageing_14 : decode cX11_ageing 14 = .ok (.iload_n 0, 1) := by decide +kernel
theorem dX11_ageing_15 : decode cX11_ageing 15 = .ok (.iconst 1, 1) := by decide +kernel
theorem dX11_ageing_16 : decode cX11_ageing 16 = .ok (.if_icmp .ne 9, 3) := by decide +kernel
theorem dX11_ageing_19 : decode cX11_ageing 19 = .ok (.iconst 2, 1) := by decide +kernel
theorem dX11_ageing_20 : decode cX11_ageing 20 = .ok (.iload_n 3, 1) := by decide +kernel
theorem dX11_ageing_21 : decode cX11_ageing 21 = .ok (.imul, 1) := by decide +kernel
theorem dX11_ageing_22 : decode cX11_ageing 22 = .ok (.goto 4, 3) := by decide +kernel
theorem dX11_ageing_25 : decode cX11_ageing 25 = .ok (.iload_n 3, 1) := by decide +kernel
theorem dX11_ageing_26 : decode cX11_ageing 26 = .ok (.ireturn, 1) := by decide +kernel
theorem dX12_init_0 : decode cX12_init 0 = .ok (.aload_n 0, 1) := by decide +kernel
theorem dX12_init_1 : decode cX12_init 1 = .ok (.invokespecial 1, 3) := by decide +kernel
theorem dX12_init_4 : decode cX12_init 4 = .ok (.aload_n 0, 1) := by decide +kernel
theorem dX12_init_5 : decode cX12_init 5 = .ok (.sipush 400, 3) := by decide +kernel
theorem dX12_init_8 : decode cX12_init 8 = .ok (.newarray .int, 2) := by decide +kernel
theorem dX12_init_10 : decode cX12_init 10 = .ok (.putfield 7, 3) := by decide +kernel
theorem dX12_init_13 : decode cX12_init 13 = .ok (.aload_n 0, 1) := by decide +kernel
theorem dX12_init_14 : decode cX12_init 14 = .ok (.iconst 2, 1) := by decide +kernel
theorem dX12_init_15 : decode cX12_init 15 = .ok (.newarray .int, 2) := by decide +kernel
theorem dX12_init_17 : decode cX12_init 17 = .ok (.putfield 13, 3) := by decide +kernel
theorem dX12_init_20 : decode cX12_init 20 = .ok (.aload_n 0, 1) := by decide +kernel
theorem dX12_init_21 : decode cX12_init 21 = .ok (.bipush 12, 2) := by decide +kernel
theorem dX12_init_23 : decode cX12_init 23 = .ok (.newarray .int, 2) := by decide +kernel
theorem dX12_init_25 : decode cX12_init 25 = .ok (.putfield 16, 3) := by decide +kernel
theorem dX12_init_28 : decode cX12_init 28 = .ok (.aload_n 0, 1) := by decide +kernel
theorem dX12_init_29 : decode cX12_init 29 = .ok (.bipush 12, 2) := by decide +kernel
theorem dX12_init_31 : decode cX12_init 31 = .ok (.newarray .int, 2) := by decide +kernel
theorem dX12_init_33 : decode cX12_init 33 = .ok (.putfield 19, 3) := by decide +kernel
theorem dX12_init_36 : decode cX12_init 36 = .ok (.aload_n 0, 1) := by decide +kernel
theorem dX12_init_37 : decode cX12_init 37 = .ok (.bipush 12, 2) := by decide +kernel
theorem dX12_init_39 : decode cX12_init 39 = .ok (.newarray .int, 2) := by decide +kernel
theorem dX12_init_41 : decode cX12_init 41 = .ok (.putfield 22, 3) := by decide +kernel
theorem dX12_init_44 : decode cX12_init 44 = .ok (.aload_n 0, 1) := by decide +kernel
theorem dX12_init_45 : decode cX12_init 45 = .ok (.iconst 2, 1) := by decide +kernel
theorem dX12_init_46 : decode cX12_init 46 = .ok (.newarray .int, 2) := by decide +kernel
theorem dX12_init_48 : decode cX12_init 48 = .ok (.putfield 25, 3) := by decide +kernel
theorem dX12_init_51 : decode cX12_init 51 = .ok (.aload_n 0, 1) := by decide +kernel
theorem dX12_init_52 : decode cX12_init 52 = .ok (.iconst 2, 1) := by decide +kernel
theorem dX12_init_53 : decode cX12_init 53 = .ok (.newarray .int, 2) := by decide +kernel
theorem dX12_init_55 : decode cX12_init 55 = .ok (.putfield 28, 3) := by decide +kernel
theorem dX12_init_58 : decode cX12_init 58 = .ok (.aload_n 0, 1) := by decide +kernel
theorem dX12_init_59 : decode cX12_init 59 = .ok (.bipush 20, 2) := by decide +kernel
theorem dX12_init_61 : decode cX12_init 61 = .ok (.newarray .int, 2) := by decide +kernel
theorem dX12_init_63 : decode cX12_init 63 = .ok (.putfield 31, 3) := by decide +kernel
theorem dX12_init_66 : decode cX12_init 66 = .ok (.aload_n 0, 1) := by decide +kernel
theorem dX12_init_67 : decode cX12_init 67 = .ok (.bipush 20, 2) := by decide +kernel
theorem dX12_init_69 : decode cX12_init 69 = .ok (.newarray .int, 2) := by decide +kernel
theorem dX12_init_71 : decode cX12_init 71 = .ok (.putfield 34, 3) := by decide +kernel
theorem dX12_init_74 : decode cX12_init 74 = .ok (.aload_n 0, 1) := by decide +kernel
theorem dX12_init_75 : decode cX12_init 75 = .ok (.bipush 20, 2) := by decide +kernel
theorem dX12_init_77 : decode cX12_init 77 = .ok (.newarray .int, 2) := by decide +kernel
theorem dX12_init_79 : decode cX12_init 79 = .ok (.putfield 37, 3) := by decide +kernel
theorem dX12_init_82 : decode cX12_init 82 = .ok (.aload_n 0, 1) := by decide +kernel
theorem dX12_init_83 : decode cX12_init 83 = .ok (.bipush 20, 2) := by decide +kernel
theorem dX12_init_85 : decode cX12_init 85 = .ok (.newarray .int, 2) := by decide +kernel
theorem dX12_init_87 : decode cX12_init 87 = .ok (.putfield 40, 3) := by decide +kernel
theorem dX12_init_90 : decode cX12_init 90 = .ok (.aload_n 0, 1) := by decide +kernel
theorem dX12_init_91 : decode cX12_init 91 = .ok (.bipush 20, 2) := by decide +kernel
theorem dX12_init_93 : decode cX12_init 93 = .ok (.newarray .int, 2) := by decide +kernel
theorem dX12_init_95 : decode cX12_init 95 = .ok (.putfield 43, 3) := by decide +kernel
theorem dX12_init_98 : decode cX12_init 98 = .ok (.aload_n 0, 1) := by decide +kernel
theorem dX12_init_99 : decode cX12_init 99 = .ok (.bipush 20, 2) := by decide +kernel
theorem dX12_init_101 : decode cX12_init 101 = .ok (.newarray .int, 2) := by decide +kernel
theorem dX12_init_103 : decode cX12_init 103 = .ok (.putfield 46, 3) := by decide +kernel
theorem dX12_init_106 : decode cX12_init 106 = .ok (.aload_n 0, 1) := by decide +kernel
theorem dX12_init_107 : decode cX12_init 107 = .ok (.iconst 2, 1) := by decide +kernel
theorem dX12_init_108 : decode cX12_init 108 = .ok (.newarray .int, 2) := by decide +kernel
theorem dX12_init_110 : decode cX12_init 110 = .ok (.putfield 49, 3) := by decide +kernel
theorem dX12_init_113 : decode cX12_init 113 = .ok (.aload_n 0, 1) := by decide +kernel
theorem dX12_init_114 : decode cX12_init 114 = .ok (.bipush 10, 2) := by decide +kernel
theorem dX12_init_116 : decode cX12_init 116 = .ok (.newarray .int, 2) := by decide +kernel
theorem dX12_init_118 : decode cX12_init 118 = .ok (.putfield 52, 3) := by decide +kernel
theorem dX12_init_121 : decode cX12_init 121 = .ok (.aload_n 0, 1) := by decide +kernel
theorem dX12_init_122 : decode cX12_init 122 = .ok (.iconst 2, 1) := by decide +kernel
theorem dX12_init_123 : decode cX12_init 123 = .ok (.newarray .int, 2) := by decide +kernel
theorem dX12_init_125 : decode cX12_init 125 = .ok (.putfield 55, 3) := by decide +kernel
theorem dX12_init_128 : decode cX12_init 128 = .ok (.aload_n 0, 1) := by decide +kernel
theorem dX12_init_129 : decode cX12_init 129 = .ok (.bipush 8, 2) := by decide +kernel
theorem dX12_init_131 : decode cX12_init 131 = .ok (.newarray .int, 2) := by decide +kernel
theorem dX12_init_133 : decode cX12_init 133 = .ok (.putfield 58, 3) := by decide +kernel
theorem dX12_init_136 : decode cX12_init 136 = .ok (.aload_n 0, 1) := by decide +kernel
theorem dX12_init_137 : decode cX12_init 137 = .ok (.iconst 2, 1) := by decide +kernel
theorem dX12_init_138 : decode cX12_init 138 = .ok (.newarray .int, 2) := by decide +kernel
theorem dX12_init_140 : decode cX12_init 140 = .ok (.putfield 61, 3) := by decide +kernel
theorem dX12_init_143 : decode cX12_init 143 = .ok (.aload_n 0, 1) := by decide +kernel
theorem dX12_init_144 : decode cX12_init 144 = .ok (.bipush 12, 2) := by decide +kernel
theorem dX12_init_146 : decode cX12_init 146 = .ok (.newarray .int, 2) := by decide +kernel
theorem dX12_init_148 : decode cX12_init 148 = .ok (.putfield 64, 3) := by decide +kernel
theorem dX12_init_151 : decode cX12_init 151 = .ok (.aload_n 0, 1) := by decide +kernel
theorem dX12_init_152 : decode cX12_init 152 = .ok (.bipush 12, 2) := by decide +kernel
theorem dX12_init_154 : decode cX12_init 154 = .ok (.newarray .int, 2) := by decide +kernel
theorem dX12_init_156 : decode cX12_init 156 = .ok (.putfield 67, 3) := by decide +kernel
theorem dX12_init_159 : decode cX12_init 159 = .ok (.aload_n 0, 1) := by decide +kernel
theorem dX12_init_160 : decode cX12_init 160 = .ok (.bipush 6, 2) := by decide +kernel
theorem dX12_init_162 : decode cX12_init 162 = .ok (.newarray .int, 2) := by decide +kernel
theorem dX12_init_164 : decode cX12_init 164 = .ok (.putfield 70, 3) := by decide +kernel
theorem dX12_init_167 : decode cX12_init 167 = .ok (.aload_n 0, 1) := by decide +kernel
theorem dX12_init_168 : decode cX12_init 168 = .ok (.bipush 40, 2) := by decide +kernel
theorem dX12_init_170 : decode cX12_init 170 = .ok (.newarray .int, 2) := by decide +kernel
theorem dX12_init_172 : decode cX12_init 172 = .ok (.putfield 73, 3) := by decide +kernel
theorem dX12_init_175 : decode cX12_init 175 = .ok (.aload_n 0, 1) := by decide +kernel
theorem dX12_init_176 : decode cX12_init 176 = .ok (.bipush 40, 2) := by decide +kernel
theorem dX12_init_178 : decode cX12_init 178 = .ok (.newarray .int, 2) := by decide +kernel
theorem dX12_init_180 : decode cX12_init 180 = .ok (.putfield 76, 3) := by decide +kernel
theorem dX12_init_183 : decode cX12_init 183 = .ok (.aload_n 0, 1) := by decide +kernel
theorem dX12_init_184 : decode cX12_init 184 = .ok (.bipush 40, 2) := by decide +kernel
theorem dX12_init_186 : decode cX12_init 186 = .ok (.newarray .int, 2) := by decide +kernel
theorem dX12_init_188 : decode cX12_init 188 = .ok (.putfield 79, 3) := by decide +kernel
theorem dX12_init_191 : decode cX12_init 191 = .ok (.aload_n 0, 1) := by decide +kernel
theorem dX12_init_192 : decode cX12_init 192 = .ok (.bipush 40, 2) := by decide +kernel
theorem dX12_init_194 : decode cX12_init 194 = .ok (.newarray .int, 2) := by decide +kernel
theorem dX12_init_196 : decode cX12_init 196 = .ok (.putfield 82, 3) := by decide +kernel
theorem dX12_init_199 : decode cX12_init 199 = .ok (.aload_n 0, 1) := by decide +kernel
theorem dX12_init_200 : decode cX12_init 200 = .ok (.bipush 40, 2) := by decide +kernel
theorem dX12_init_202 : decode cX12_init 202 = .ok (.newarray .int, 2) := by decide +kernel
theorem dX12_init_204 : decode cX12_init 204 = .ok (.putfield 85, 3) := by decide +kernel
theorem dX12_init_207 : decode cX12_init 207 = .ok (.aload_n 0, 1) := by decide +kernel
theorem dX12_init_208 : decode cX12_init 208 = .ok (.iconst 4, 1) := by decide +kernel
theorem dX12_init_209 : decode cX12_init 209 = .ok (.newarray .int, 2) := by decide +kernel
theorem dX12_init_211 : decode cX12_init 211 = .ok (.putfield 88, 3) := by decide +kernel
theorem dX12_init_214 : decode cX12_init 214 = .ok (.aload_n 0, 1) := by decide +kernel
theorem dX12_init_215 : decode cX12_init 215 = .ok (.bipush 16, 2) := by decide +kernel
theorem dX12_init_217 : decode cX12_init 217 = .ok (.newarray .int, 2) := by decide +kernel
theorem dX12_init_219 : decode cX12_init 219 = .ok (.putfield 91, 3) := by decide +kernel
theorem dX12_init_222 : decode cX12_init 222 = .ok (.aload_n 0, 1) := by decide +kernel
theorem dX12_init_223 : decode cX12_init 223 = .ok (.bipush 6, 2) := by decide +kernel
theorem dX12_init_225 : decode cX12_init 225 = .ok (.newarray .int, 2) := by decide +kernel
theorem dX12_init_227 : decode cX12_init 227 = .ok (.putfield 94, 3) := by decide +kernel
theorem dX12_init_230 : decode cX12_init 230 = .ok (.aload_n 0, 1) := by decide +kernel
theorem dX12_init_231 : decode cX12_init 231 = .ok (.iconst 0, 1) := by decide +kernel
theorem dX12_init_232 : decode cX12_init 232 = .ok (.invokevirtual 97, 3) := by decide +kernel
theorem dX12_init_235 : decode cX12_init 235 = .ok (.aload_n 0, 1) := by decide +kernel
theorem dX12_init_236 : decode cX12_init 236 = .ok (.getfield 13, 3) := by decide +kernel
theorem dX12_init_239 : decode cX12_init 239 = .ok (.iconst 0, 1) := by decide +kernel
theorem dX12_init_240 : decode cX12_init 240 = .ok (.iconst 1, 1) := by decide +kernel
theorem dX12_init_241 : decode cX12_init 241 = .ok (.iastore, 1) := by decide +kernel
theorem dX12_init_242 : decode cX12_init 242 = .ok (.aload_n 0, 1) := by decide +kernel
theorem dX12_init_243 : decode cX12_init 243 = .ok (.getfield 16, 3) := by decide +kernel
theorem dX12_init_246 : decode cX12_init 246 = .ok (.iconst 0, 1) := by decide +kernel
theorem dX12_init_247 : decode cX12_init 247 = .ok (.bipush 40, 2) := by decide +kernel
theorem dX12_init_249 : decode cX12_init 249 = .ok (.iastore, 1) := by decide +kernel
theorem dX12_init_250 : decode cX12_init 250 = .ok (.aload_n 0, 1) := by decide +kernel
theorem dX12_init_251 : decode cX12_init 251 = .ok (.getfield 19, 3) := by decide +kernel
theorem dX12_init_254 : decode cX12_init 254 = .ok (.iconst 0, 1) := by decide +kernel
theorem dX12_init_255 : decode cX12_init 255 = .ok (.iconst 5, 1) := by decide +kernel
theorem dX12_init_256 : decode cX12_init 256 = .ok (.iastore, 1) := by decide +kernel
theorem dX12_init_257 : decode cX12_init 257 = .ok (.aload_n 0, 1) := by decide +kernel
theorem dX12_init_258 : decode cX12_init 258 = .ok (.getfield 22, 3) := by decide +kernel
theorem dX12_init_261 : decode cX12_init 261 = .ok (.iconst 0, 1) := by decide +kernel
theorem dX12_init_262 : decode cX12_init 262 = .ok (.bipush 10, 2) := by decide +kernel
theorem dX12_init_264 : decode cX12_init 264 = .ok (.iastore, 1) := by decide +kernel
theorem dX12_init_265 : decode cX12_init 265 = .ok (.aload_n 0, 1) := by decide +kernel
theorem dX12_init_266 : decode cX12_init 266 = .ok (.getfield 28, 3) := by decide +kernel
theorem dX12_init_269 : decode cX12_init 269 = .ok (.iconst 0, 1) := by decide +kernel
theorem dX12_init_270 : decode cX12_init 270 = .ok (.iconst 1, 1) := by decide +kernel
theorem dX12_init_271 : decode cX12_init 271 = .ok (.iastore, 1) := by decide +kernel
theorem dX12_init_272 : decode cX12_init 272 = .ok (.aload_n 0, 1) := by decide +kernel
theorem dX12_init_273 : decode cX12_init 273 = .ok (.getfield 37, 3) := by decide +kernel
theorem dX12_init_276 : decode cX12_init 276 = .ok (.iconst 0, 1) := by decide +kernel
theorem dX12_init_277 : decode cX12_init 277 = .ok (.bipush 9, 2) := by decide +kernel
theorem dX12_init_279 : decode cX12_init 279 = .ok (.iastore, 1) := by decide +kernel
theorem dX12_init_280 : decode cX12_init 280 = .ok (.aload_n 0, 1) := by decide +kernel
theorem dX12_init_281 : decode cX12_init 281 = .ok (.getfield 40, 3) := by decide +kernel
theorem dX12_init_284 : decode cX12_init 284 = .ok (.iconst 0, 1) := by decide +kernel
theorem dX12_init_285 : decode cX12_init 285 = .ok (.bipush 48, 2) := by decide +kernel
theorem dX12_init_287 : decode cX12_init 287 = .ok (.iastore, 1) := by decide +kernel
theorem dX12_init_288 : decode cX12_init 288 = .ok (.aload_n 0, 1) := by decide +kernel
theorem dX12_init_289 : decode cX12_init 289 = .ok (.getfield 43, 3) := by decide +kernel
theorem dX12_init_292 : decode cX12_init 292 = .ok (.iconst 0, 1) := by decide +kernel
theorem dX12_init_293 : decode cX12_init 293 = .ok (.iconst 3, 1) := by decide +kernel
theorem dX12_init_294 : decode cX12_init 294 = .ok (.iastore, 1) := by decide +kernel
theorem dX12_init_295 : decode cX12_init 295 = .ok (.aload_n 0, 1) := by decide +kernel
theorem dX12_init_296 : decode cX12_init 296 = .ok (.invokevirtual 101, 3) := by decide +kernel
theorem dX12_init_299 : decode cX12_init 299 = .ok (.return_, 1) := by decide +kernel
theorem dX12_in_0 : decode cX12_in 0 = .ok (.lload_n 0, 1) := by decide +kernel
theorem dX12_in_1 : decode cX12_in 1 = .ok (.lload_n 2, 1) := by decide +kernel
theorem dX12_in_2 : decode cX12_in 2 = .ok (.lcmp, 1) := by decide +kernel
theorem dX12_in_3 : decode cX12_in 3 = .ok (.ifCond .lt 14, 3) := by decide +kernel
theorem dX12_in_6 : decode cX12_in 6 = .ok (.lload_n 0, 1) := by decide +kernel
theorem dX12_in_7 : decode cX12_in 7 = .ok (.lload 4, 2) := by decide +kernel
theorem dX12_in_9 : decode cX12_in 9 = .ok (.lcmp, 1) := by decide +kernel
theorem dX12_in_10 : decode cX12_in 10 = .ok (.ifCond .gt 7, 3) := by decide +kernel
theorem dX12_in_13 : decode cX12_in 13 = .ok (.iconst 1, 1) := by decide +kernel
theorem dX12_in_14 : decode cX12_in 14 = .ok (.goto 4, 3) := by decide +kernel
theorem dX12_in_17 : decode cX12_in 17 = .ok (.iconst 0, 1) := by decide +kernel
theorem dX12_in_18 : decode cX12_in 18 = .ok (.ireturn, 1) := by decide +kernel
theorem dX12_has_0 : decode cX12_has 0 = .ok (.iload_n 0, 1) := by decide +kernel
theorem dX12_has_1 : decode cX12_has 1 = .ok (.iload_n 1, 1) := by decide +kernel
theorem dX12_has_2 : decode cX12_has 2 = .ok (.ishr, 1) := by decide +kernel
theorem dX12_has_3 : decode cX12_has 3 = .ok (.iconst 1, 1) := by decide +kernel
theorem dX12_has_4 : decode cX12_has 4 = .ok (.iand, 1) := by decide +kernel
theorem dX12_has_5 : decode cX12_has 5 = .ok (.iconst 1, 1) := by decide +kernel
theorem dX12_has_6 : decode cX12_has 6 = .ok (.if_icmp .ne 7, 3) := by decide +kernel
theorem dX12_has_9 : decode cX12_has 9 = .ok (.iconst 1, 1) := by decide +kernel
theorem dX12_has_10 : decode cX12_has 10 = .ok (.goto 4, 3) := by decide +kernel
theorem dX12_has_13 : decode cX12_has 13 = .ok (.iconst 0, 1) := by decide +kernel
theorem dX12_has_14 : decode cX12_has 14 = .ok (.ireturn, 1) := by decide +kernel
theorem dX12_noFridge_0 : decode cX12_noFridge 0 = .ok (.aload_n 0, 1) := by decide +kernel
theorem dX12_noFridge_1 : decode cX12_noFridge 1 = .ok (.getfield 13, 3) := by decide +kernel
theorem dX12_noFridge_4 : decode cX12_noFridge 4 = .ok (.iload_n 1, 1) := by decide +kernel
theorem dX12_noFridge_5 : decode cX12_noFridge 5 = .ok (.iconst 0, 1) := by decide +kernel
theorem dX12_noFridge_6 : decode cX12_noFridge 6 = .ok (.iastore, 1) := by decide +kernel
theorem dX12_noFridge_7 : decode cX12_noFridge 7 = .ok (.aload_n 0, 1) := by decide +kernel
theorem dX12_noFridge_8 : decode cX12_noFridge 8 = .ok (.getfield 25, 3) := by decide +kernel
theorem dX12_noFridge_11 : decode cX12_noFridge 11 = .ok (.iload_n 1, 1) := by decide +kernel
theorem dX12_noFridge_12 : decode cX12_noFridge 12 = .ok (.iconst 0, 1) := by decide +kernel
theorem dX12_noFridge_13 : decode cX12_noFridge 13 = .ok (.iastore, 1) := by decide +kernel
theorem dX12_noFridge_14 : decode cX12_noFridge 14 = .ok (.aload_n 0, 1) := by decide +kernel
theorem dX12_noFridge_15 : decode cX12_noFridge 15 = .ok (.getfield 28, 3) := by decide +kernel
theorem dX12_noFridge_18 : decode cX12_noFridge 18 = .ok (.iload_n 1, 1) := by decide +kernel
theorem dX12_noFridge_19 : decode cX12_noFridge 19 = .ok (.iconst 0, 1) := by decide +kernel
theorem dX12_noFridge_20 : decode cX12_noFridge 20 = .ok (.iastore, 1) := by decide +kernel
theorem dX12_noFridge_21 : decode cX12_noFridge 21 = .ok (.aload_n 0, 1) := by decide +kernel
theorem dX12_noFridge_22 : decode cX12_noFridge 22 = .ok (.getfield 49, 3) := by decide +kernel
theorem dX12_noFridge_25 : decode cX12_noFridge 25 = .ok (.iload_n 1, 1) := by decide +kernel
theorem dX12_noFridge_26 : decode cX12_noFridge 26 = .ok (.iconst 0, 1) := by decide +kernel
theorem dX12_noFridge_27 : decode cX12_noFridge 27 = .ok (.iastore, 1) := by decide +kernel
theorem dX12_noFridge_28 : decode cX12_noFridge 28 = .ok (.aload_n 0, 1) := by decide +kernel
theorem dX12_noFridge_29 : decode cX12_noFridge 29 = .ok (.getfield 55, 3) := by decide +kernel
theorem dX12_noFridge_32 : decode cX12_noFridge 32 = .ok (.iload_n 1, 1) := by decide +kernel
theorem dX12_noFridge_33 : decode cX12_noFridge 33 = .ok (.iconst 0, 1) := by decide +kernel
theorem dX12_noFridge_34 : decode cX12_noFridge 34 = .ok (.iastore, 1) := by decide +kernel
theorem dX12_noFridge_35 : decode cX12_noFridge 35 = .ok (.aload_n 0, 1) := by decide +kernel
theorem dX12_noFridge_36 : decode cX12_noFridge 36 = .ok (.getfield 61, 3) := by decide +kernel
theorem dX12_noFridge_39 : decode cX12_noFridge 39 = .ok (.iload_n 1, 1) := by decide +kernel
theorem dX12_noFridge_40 : decode cX12_noFridge 40 = .ok (.iconst 0, 1) := by decide +kernel
theorem dX12_noFridge_41 : decode cX12_noFridge 41 = .ok (.iastore, 1) := by decide +kernel
theorem dX12_noFridge_42 : decode cX12_noFridge 42 = .ok (.aload_n 0, 1) := by decide +kernel
theorem dX12_noFridge_43 : decode cX12_noFridge 43 = .ok (.getfield 70, 3) := by decide +kernel
theorem dX12_noFridge_46 : decode cX12_noFridge 46 = .ok (.iconst 3, 1) := by decide +kernel
theorem dX12_noFridge_47 : decode cX12_noFridge 47 = .ok (.iload_n 1, 1) := by decide +kernel
theorem dX12_noFridge_48 : decode cX12_noFridge 48 = .ok (.imul, 1) := by decide +kernel
theorem dX12_noFridge_49 : decode cX12_noFridge 49 = .ok (.bipush 10, 2) := by decide +kernel
theorem dX12_noFridge_51 : decode cX12_noFridge 51 = .ok (.iastore, 1) := by decide +kernel
theorem dX12_noFridge_52 : decode cX12_noFridge 52 = .ok (.aload_n 0, 1) := by decide +kernel
theorem dX12_noFridge_53 : decode cX12_noFridge 53 = .ok (.getfield 70, 3) := by decide +kernel
theorem dX12_noFridge_56 : decode cX12_noFridge 56 = .ok (.iconst 3, 1) := by decide +kernel
theorem dX12_noFridge_57 : decode cX12_noFridge 57 = .ok (.iload_n 1, 1) := by decide +kernel
theorem dX12_noFridge_58 : decode cX12_noFridge 58 = .ok (.imul, 1) := by decide +kernel
theorem dX12_noFridge_59 : decode cX12_noFridge 59 = .ok (.iconst 1, 1) := by decide +kernel
theorem dX12_noFridge_60 : decode cX12_noFridge 60 = .ok (.iadd, 1) := by decide +kernel
theorem dX12_noFridge_61 : decode cX12_noFridge 61 = .ok (.bipush 20, 2) := by decide +kernel
theorem dX12_noFridge_63 : decode cX12_noFridge 63 = .ok (.iastore, 1) := by decide +kernel
theorem dX12_noFridge_64 : decode cX12_noFridge 64 = .ok (.aload_n 0, 1) := by decide +kernel
theorem dX12_noFridge_65 : decode cX12_noFridge 65 = .ok (.getfield 70, 3) := by decide +kernel
theorem dX12_noFridge_68 : decode cX12_noFridge 68 = .ok (.iconst 3, 1) := by decide +kernel
theorem dX12_noFridge_69 : decode cX12_noFridge 69 = .ok (.iload_n 1, 1) := by decide +kernel
theorem dX12_noFridge_70 : decode cX12_noFridge 70 = .ok (.imul, 1) := by decide +kernel
theorem dX12_noFridge_71 : decode cX12_noFridge 71 = .ok (.iconst 2, 1) := by decide +kernel
theorem dX12_noFridge_72 : decode cX12_noFridge 72 = .ok (.iadd, 1) := by decide +kernel
theorem dX12_noFridge_73 : decode cX12_noFridge 73 = .ok (.iconst 1, 1) := by decide +kernel
theorem dX12_noFridge_74 : decode cX12_noFridge 74 = .ok (.iastore, 1) := by decide +kernel
theorem dX12_noFridge_75 : decode cX12_noFridge 75 = .ok (.return_, 1) := by decide +kernel
theorem dX12_write_0 : decode cX12_write 0 = .ok (.iload_n 1, 1) := by decide +kernel
theorem dX12_write_1 : decode cX12_write 1 = .ok (.i2l, 1) := by decide +kernel
theorem dX12_write_2 : decode cX12_write 2 = .ok (.lconst 1, 1) := by decide +kernel
theorem dX12_write_3 : decode cX12_write 3 = .ok (.ldc2_w 104, 3) := by decide +kernel
theorem dX12_write_6 : decode cX12_write 6 = .ok (.invokestatic 106, 3) := by decide +kernel
theorem dX12_write_9 : decode cX12_write 9 = .ok (.ifCond .ne 5, 3) := by decide +kernel
theorem dX12_write_12 : decode cX12_write 12 = .ok (.iconst (-1), 1) := by decide +kernel
theorem dX12_write_13 : decode cX12_write 13 = .ok (.ireturn, 1) := by decide +kernel
theorem dX12_write_14 : decode cX12_write 14 = .ok (.aload_n 0, 1) := by decide +kernel
theorem dX12_write_15 : decode cX12_write 15 = .ok (.getfield 110, 3) := by decide +kernel
theorem dX12_write_18 : decode cX12_write 18 = .ok (.iload_n 1, 1) := by decide +kernel
theorem dX12_write_19 : decode cX12_write 19 = .ok (.iadd, 1) := by decide +kernel
theorem dX12_write_20 : decode cX12_write 20 = .ok (.sipush 400, 3) := by decide +kernel
theorem dX12_write_23 : decode cX12_write 23 = .ok (.if_icmp .le 6, 3) := by decide +kernel
theorem dX12_write_26 : decode cX12_write 26 = .ok (.bipush (-3), 2) := by decide +kernel
theorem dX12_write_28 : decode cX12_write 28 = .ok (.ireturn, 1) := by decide +kernel
theorem dX12_write_29 : decode cX12_write 29 = .ok (.iload_n 1, 1) := by decide +kernel
theorem dX12_write_30 : decode cX12_write 30 = .ok (.iconst 1, 1) := by decide +kernel
theorem dX12_write_31 : decode cX12_write 31 = .ok (.isub, 1) := by decide +kernel
theorem dX12_write_32 : decode cX12_write 32 = .ok (.istore 4, 2) := by decide +kernel
theorem dX12_write_34 : decode cX12_write 34 = .ok (.iload 4, 2) := by decide +kernel
theorem dX12_write_36 : decode cX12_write 36 = .ok (.ifCond .lt 40, 3) := by decide +kernel
theorem dX12_write_39 : decode cX12_write 39 = .ok (.aload_n 0, 1) := by decide +kernel
theorem dX12_write_40 : decode cX12_write 40 = .ok (.getfield 7, 3) := by decide +kernel
theorem dX12_write_43 : decode cX12_write 43 = .ok (.aload_n 0, 1) := by decide +kernel
theorem dX12_write_44 : decode cX12_write 44 = .ok (.getfield 110, 3) := by decide +kernel
theorem dX12_write_47 : decode cX12_write 47 = .ok (.lload_n 2, 1) := by decide +kernel
theorem dX12_write_48 : decode cX12_write 48 = .ok (.bipush 8, 2) := by decide +kernel
theorem dX12_write_50 : decode cX12_write 50 = .ok (.iload 4, 2) := by decide +kernel
theorem dX12_write_52 : decode cX12_write 52 = .ok (.imul, 1) := by decide +kernel
theorem dX12_write_53 : decode cX12_write 53 = .ok (.lshr, 1) := by decide +kernel
theorem dX12_write_54 : decode cX12_write 54 = .ok (.ldc2_w 114, 3) := by decide +kernel
theorem dX12_write_57 : decode cX12_write 57 = .ok (.land, 1) := by decide +kernel
theorem dX12_write_58 : decode cX12_write 58 = .ok (.l2i, 1) := by decide +kernel
theorem dX12_write_59 : decode cX12_write 59 = .ok (.iastore, 1) := by decide +kernel
theorem dX12_write_60 : decode cX12_write 60 = .ok (.aload_n 0, 1) := by decide +kernel
theorem dX12_write_61 : decode cX12_write 61 = .ok (.dup, 1) := by decide +kernel
theorem dX12_write_62 : decode cX12_write 62 = .ok (.getfield 110, 3) := by decide +kernel
theorem dX12_write_65 : decode cX12_write 65 = .ok (.iconst 1, 1) := by decide +kernel
theorem dX12_write_66 : decode cX12_write 66 = .ok (.iadd, 1) := by decide +kernel
theorem dX12_write_67 : decode cX12_write 67 = .ok (.putfield 110, 3) := by decide +kernel
theorem dX12_write_70 : decode cX12_write 70 = .ok (.iinc 4 (-1), 3) := by decide +kernel
theorem dX12_write_73 : decode cX12_write 73 = .ok (.goto (-39), 3) := by decide +kernel
theorem dX12_write_76 : decode cX12_write 76 = .ok (.aload_n 0, 1) := by decide +kernel
theorem dX12_write_77 : decode cX12_write 77 = .ok (.getfield 110, 3) := by decide +kernel
theorem dX12_write_80 : decode cX12_write 80 = .ok (.ireturn, 1) := by decide +kernel
theorem dX12_wipe_0 : decode cX12_wipe 0 = .ok (.aload_n 0, 1) := by decide +kernel
theorem dX12_wipe_1 : decode cX12_wipe 1 = .ok (.getfield 110, 3) := by decide +kernel
theorem dX12_wipe_4 : decode cX12_wipe 4 = .ok (.istore_n 1, 1) := by decide +kernel
theorem dX12_wipe_5 : decode cX12_wipe 5 = .ok (.aload_n 0, 1) := by decide +kernel
theorem dX12_wipe_6 : decode cX12_wipe 6 = .ok (.iconst 0, 1) := by decide +kernel
theorem dX12_wipe_7 : decode cX12_wipe 7 = .ok (.putfield 110, 3) := by decide +kernel
theorem dX12_wipe_10 : decode cX12_wipe 10 = .ok (.iload_n 1, 1) := by decide +kernel
theorem dX12_wipe_11 : decode cX12_wipe 11 = .ok (.ireturn, 1) := by decide +kernel
theorem dX12_byteAt_0 : decode cX12_byteAt 0 = .ok (.iload_n 1, 1) := by decide +kernel
theorem dX12_byteAt_1 : decode cX12_byteAt 1 = .ok (.aload_n 0, 1) := by decide +kernel
theorem dX12_byteAt_2 : decode cX12_byteAt 2 = .ok (.getfield 110, 3) := by decide +kernel
theorem dX12_byteAt_5 : decode cX12_byteAt 5 = .ok (.if_icmp .ge 12, 3) := by decide +kernel
theorem dX12_byteAt_8 : decode cX12_byteAt 8 = .ok (.aload_n 0, 1) := by decide +kernel
theorem dX12_byteAt_9 : decode cX12_byteAt 9 = .ok (.getfield 7, 3) := by decide +kernel
theorem dX12_byteAt_12 : decode cX12_byteAt 12 = .ok (.iload_n 1, 1) := by decide +kernel
theorem dX12_byteAt_13 : decode cX12_byteAt 13 = .ok (.iaload, 1) := by decide +kernel
theorem dX12_byteAt_14 : decode cX12_byteAt 14 = .ok (.goto 4, 3) := by decide +kernel
theorem dX12_byteAt_17 : decode cX12_byteAt 17 = .ok (.iconst 0, 1) := by decide +kernel
theorem dX12_byteAt_18 : decode cX12_byteAt 18 = .ok (.ireturn, 1) := by decide +kernel
theorem dX12_figures_0 : decode cX12_figures 0 = .ok (.iconst 0, 1) := by decide +kernel
theorem dX12_figures_1 : decode cX12_figures 1 = .ok (.istore_n 2, 1) := by decide +kernel
theorem dX12_figures_2 : decode cX12_figures 2 = .ok (.iload_n 2, 1) := by decide +kernel
theorem dX12_figures_3 : decode cX12_figures 3 = .ok (.iload_n 1, 1) := by decide +kernel
theorem dX12_figures_4 : decode cX12_figures 4 = .ok (.if_icmp .ge 132, 3) := by decide +kernel
theorem dX12_figures_7 : decode cX12_figures 7 = .ok (.iconst 0, 1) := by decide +kernel
theorem dX12_figures_8 : decode cX12_figures 8 = .ok (.istore_n 3, 1) := by decide +kernel
theorem dX12_figures_9 : decode cX12_figures 9 = .ok (.iconst 0, 1) := by decide +kernel
theorem dX12_figures_10 : decode cX12_figures 10 = .ok (.istore 4, 2) := by decide +kernel
theorem dX12_figures_12 : decode cX12_figures 12 = .ok (.aload_n 0, 1) := by decide +kernel
theorem dX12_figures_13 : decode cX12_figures 13 = .ok (.aload_n 0, 1) := by decide +kernel
theorem dX12_figures_14 : decode cX12_figures 14 = .ok (.getfield 116, 3) := by decide +kernel
theorem dX12_figures_17 : decode cX12_figures 17 = .ok (.invokevirtual 119, 3) := by decide +kernel
theorem dX12_figures_20 : decode cX12_figures 20 = .ok (.i2l, 1) := by decide +kernel
theorem dX12_figures_21 : decode cX12_figures 21 = .ok (.ldc2_w 123, 3) := by decide +kernel
theorem dX12_figures_24 : decode cX12_figures 24 = .ok (.ldc2_w 125, 3) := by decide +kernel
theorem dX12_figures_27 : decode cX12_figures 27 = .ok (.invokestatic 106, 3) := by decide +kernel
theorem dX12_figures_30 : decode cX12_figures 30 = .ok (.ifCond .eq 43, 3) := by decide +kernel
theorem dX12_figures_33 : decode cX12_figures 33 = .ok (.iload_n 3, 1) := by decide +kernel
theorem dX12_figures_34 : decode cX12_figures 34 = .ok (.iconst 4, 1) := by decide +kernel
theorem dX12_figures_35 : decode cX12_figures 35 = .ok (.if_icmp .ge 38, 3) := by decide +kernel
theorem dX12_figures_38 : decode cX12_figures 38 = .ok (.bipush 10, 2) := by decide +kernel
theorem dX12_figures_40 : decode cX12_figures 40 = .ok (.iload 4, 2) := by decide +kernel
theorem dX12_figures_42 : decode cX12_figures 42 = .ok (.imul, 1) := by decide +kernel
theorem dX12_figures_43 : decode cX12_figures 43 = .ok (.aload_n 0, 1) := by decide +kernel
theorem dX12_figures_44 : decode cX12_figures 44 = .ok (.aload_n 0, 1) := by decide +kernel
theorem dX12_figures_45 : decode cX12_figures 45 = .ok (.getfield 116, 3) := by decide +kernel
theorem dX12_figures_48 : decode cX12_figures 48 = .ok (.invokevirtual 119, 3) := by decide +kernel
theorem dX12_figures_51 : decode cX12_figures 51 = .ok (.iadd, 1) := by decide +kernel
theorem dX12_figures_52 : decode cX12_figures 52 = .ok (.bipush 48, 2) := by decide +kernel
theorem dX12_figures_54 : decode cX12_figures 54 = .ok (.isub, 1) := by decide +kernel
theorem dX12_figures_55 : decode cX12_figures 55 = .ok (.istore 4, 2) := by decide +kernel
theorem dX12_figures_57 : decode cX12_figures 57 = .ok (.iinc 3 1, 3) := by decide +kernel
theorem dX12_figures_60 : decode cX12_figures 60 = .ok (.aload_n 0, 1) := by decide +kernel
theorem dX12_figures_61 : decode cX12_figures 61 = .ok (.dup, 1) := by decide +kernel
theorem dX12_figures_62 : decode cX12_figures 62 = .ok (.getfield 116, 3) := by decide +kernel
theorem dX12_figures_65 : decode cX12_figures 65 = .ok (.iconst 1, 1) := by decide +kernel
theorem dX12_figures_66 : decode cX12_figures 66 = .ok (.iadd, 1) := by decide +kernel
theorem dX12_figures_67 : decode cX12_figures 67 = .ok (.putfield 116, 3) := by decide +kernel
theorem dX12_figures_70 : decode cX12_figures 70 = .ok (.goto (-58), 3) := by decide +kernel
theorem dX12_figures_73 : decode cX12_figures 73 = .ok (.iload_n 3, 1) := by decide +kernel
theorem dX12_figures_74 : decode cX12_figures 74 = .ok (.i2l, 1) := by decide +kernel
theorem dX12_figures_75 : decode cX12_figures 75 = .ok (.lconst 1, 1) := by decide +kernel
theorem dX12_figures_76 : decode cX12_figures 76 = .ok (.ldc2_w 127, 3) := by decide +kernel
theorem dX12_figures_79 : decode cX12_figures 79 = .ok (.invokestatic 106, 3) := by decide +kernel
theorem dX12_figures_82 : decode cX12_figures 82 = .ok (.ifCond .eq 28, 3) := by decide +kernel
theorem dX12_figures_85 : decode cX12_figures 85 = .ok (.aload_n 0, 1) := by decide +kernel
theorem dX12_figures_86 : decode cX12_figures 86 = .ok (.aload_n 0, 1) := by decide +kernel
theorem dX12_figures_87 : decode cX12_figures 87 = .ok (.getfield 116, 3) := by decide +kernel
theorem dX12_figures_90 : decode cX12_figures 90 = .ok (.invokevirtual 119, 3) := by decide +kernel
theorem dX12_figures_93 : decode cX12_figures 93 = .ok (.iload_n 2, 1) := by decide +kernel
theorem dX12_figures_94 : decode cX12_figures 94 = .ok (.iload_n 1, 1) := by decide +kernel
theorem dX12_figures_95 : decode cX12_figures 95 = .ok (.iconst 1, 1) := by decide +kernel
theorem dX12_figures_96 : decode cX12_figures 96 = .ok (.isub, 1) := by decide +kernel
theorem dX12_figures_97 : decode cX12_figures 97 = .ok (.if_icmp .ge 8, 3) := by decide +kernel
theorem dX12_figures_100 : decode cX12_figures 100 = .ok (.bipush 44, 2) := by decide +kernel
theorem dX12_figures_102 : decode cX12_figures 102 = .ok (.goto 5, 3) := by decide +kernel
theorem dX12_figures_105 : decode cX12_figures 105 = .ok (.bipush 59, 2) := by decide +kernel
theorem dX12_figures_107 : decode cX12_figures 107 = .ok (.if_icmp .eq 5, 3) := by decide +kernel
theorem dX12_figures_110 : decode cX12_figures 110 = .ok (.iconst 0, 1) := by decide +kernel
theorem dX12_figures_111 : decode cX12_figures 111 = .ok (.ireturn, 1) := by decide +kernel
theorem dX12_figures_112 : decode cX12_figures 112 = .ok (.aload_n 0, 1) := by decide +kernel
theorem dX12_figures_113 : decode cX12_figures 113 = .ok (.getfield 94, 3) := by decide +kernel
theorem dX12_figures_116 : decode cX12_figures 116 = .ok (.iload_n 2, 1) := by decide +kernel
theorem dX12_figures_117 : decode cX12_figures 117 = .ok (.iload 4, 2) := by decide +kernel
theorem dX12_figures_119 : decode cX12_figures 119 = .ok (.iastore, 1) := by decide +kernel
theorem dX12_figures_120 : decode cX12_figures 120 = .ok (.aload_n 0, 1) := by decide +kernel
theorem dX12_figures_121 : decode cX12_figures 121 = .ok (.dup, 1) := by decide +kernel
theorem dX12_figures_122 : decode cX12_figures 122 = .ok (.getfield 116, 3) := by decide +kernel
theorem dX12_figures_125 : decode cX12_figures 125 = .ok (.iconst 1, 1) := by decide +kernel
theorem dX12_figures_126 : decode cX12_figures 126 = .ok (.iadd, 1) := by decide +kernel
theorem dX12_figures_127 : decode cX12_figures 127 = .ok (.putfield 116, 3) := by decide +kernel
theorem dX12_figures_130 : decode cX12_figures 130 = .ok (.iinc 2 1, 3) := by decide +kernel
theorem dX12_figures_133 : decode cX12_figures 133 = .ok (.goto (-131), 3) := by decide +kernel
theorem dX12_figures_136 : decode cX12_figures 136 = .ok (.iconst 1, 1) := by decide +kernel
theorem dX12_figures_137 : decode cX12_figures 137 = .ok (.ireturn, 1) := by decide +kernel
theorem dX12_cellItem_0 : decode cX12_cellItem 0 = .ok (.bipush 6, 2) := by decide +kernel
theorem dX12_cellItem_2 : decode cX12_cellItem 2 = .ok (.aload_n 0, 1) := by decide +kernel
theorem dX12_cellItem_3 : decode cX12_cellItem 3 = .ok (.getfield 13, 3) := by decide +kernel
theorem dX12_cellItem_6 : decode cX12_cellItem 6 = .ok (.iconst 1, 1) := by decide +kernel
theorem dX12_cellItem_7 : decode cX12_cellItem 7 = .ok (.iaload, 1) := by decide +kernel
theorem dX12_cellItem_8 : decode cX12_cellItem 8 = .ok (.iadd, 1) := by decide +kernel
theorem dX12_cellItem_9 : decode cX12_cellItem 9 = .ok (.istore_n 1, 1) := by decide +kernel
theorem dX12_cellItem_10 : decode cX12_cellItem 10 = .ok (.aload_n 0, 1) := by decide +kernel
theorem dX12_cellItem_11 : decode cX12_cellItem 11 = .ok (.iconst 3, 1) := by decide +kernel
theorem dX12_cellItem_12 : decode cX12_cellItem 12 = .ok (.invokevirtual 129, 3) := by decide +kernel
theorem dX12_cellItem_15 : decode cX12_cellItem 15 = .ok (.ifCond .eq 54, 3) := by decide +kernel
theorem dX12_cellItem_18 : decode cX12_cellItem 18 = .ok (.aload_n 0, 1) := by decide +kernel
theorem dX12_cellItem_19 : decode cX12_cellItem 19 = .ok (.getfield 13, 3) := by decide +kernel
theorem dX12_cellItem_22 : decode cX12_cellItem 22 = .ok (.iconst 1, 1) := by decide +kernel
theorem dX12_cellItem_23 : decode cX12_cellItem 23 = .ok (.iaload, 1) := by decide +kernel
theorem dX12_cellItem_24 : decode cX12_cellItem 24 = .ok (.bipush 6, 2) := by decide +kernel
theorem dX12_cellItem_26 : decode cX12_cellItem 26 = .ok (.if_icmp .eq 43, 3) := by decide +kernel
theorem dX12_cellItem_29 : decode cX12_cellItem 29 = .ok (.aload_n 0, 1) := by decide +kernel
theorem dX12_cellItem_30 : decode cX12_cellItem 30 = .ok (.getfield 94, 3) := by decide +kernel
theorem dX12_cellItem_33 : decode cX12_cellItem 33 = .ok (.iconst 0, 1) := by decide +kernel
theorem dX12_cellItem_34 : decode cX12_cellItem 34 = .ok (.iaload, 1) := by decide +kernel
theorem dX12_cellItem_35 : decode cX12_cellItem 35 = .ok (.sipush 200, 3) := by decide +kernel
theorem dX12_cellItem_38 : decode cX12_cellItem 38 = .ok (.if_icmp .gt 31, 3) := by decide +kernel
theorem dX12_cellItem_41 : decode cX12_cellItem 41 = .ok (.aload_n 0, 1) := by decide +kernel
theorem dX12_cellItem_42 : decode cX12_cellItem 42 = .ok (.getfield 94, 3) := by decide +kernel
theorem dX12_cellItem_45 : decode cX12_cellItem 45 = .ok (.iconst 1, 1) := by decide +kernel
theorem dX12_cellItem_46 : decode cX12_cellItem 46 = .ok (.iaload, 1) := by decide +kernel
theorem dX12_cellItem_47 : decode cX12_cellItem 47 = .ok (.bipush 99, 2) := by decide +kernel
theorem dX12_cellItem_49 : decode cX12_cellItem 49 = .ok (.if_icmp .gt 20, 3) := by decide +kernel
theorem dX12_cellItem_52 : decode cX12_cellItem 52 = .ok (.aload_n 0, 1) := by decide +kernel
theorem dX12_cellItem_53 : decode cX12_cellItem 53 = .ok (.getfield 94, 3) := by decide +kernel
theorem dX12_cellItem_56 : decode cX12_cellItem 56 = .ok (.iconst 2, 1) := by decide +kernel
theorem dX12_cellItem_57 : decode cX12_cellItem 57 = .ok (.iaload, 1) := by decide +kernel
theorem dX12_cellItem_58 : decode cX12_cellItem 58 = .ok (.i2l, 1) := by decide +kernel
theorem dX12_cellItem_59 : decode cX12_cellItem 59 = .ok (.lconst 1, 1) := by decide +kernel
theorem dX12_cellItem_60 : decode cX12_cellItem 60 = .ok (.ldc2_w 133, 3) := by decide +kernel
theorem dX12_cellItem_63 : decode cX12_cellItem 63 = .ok (.invokestatic 106, 3) := by decide +kernel
theorem dX12_cellItem_66 : decode cX12_cellItem 66 = .ok (.ifCond .ne 5, 3) := by decide +kernel
theorem dX12_cellItem_69 : decode cX12_cellItem 69 = .ok (.iconst 0, 1) := by decide +kernel
theorem dX12_cellItem_70 : decode cX12_cellItem 70 = .ok (.ireturn, 1) := by decide +kernel
theorem dX12_cellItem_71 : decode cX12_cellItem 71 = .ok (.aload_n 0, 1) := by decide +kernel
theorem dX12_cellItem_72 : decode cX12_cellItem 72 = .ok (.getfield 16, 3) := by decide +kernel
theorem dX12_cellItem_75 : decode cX12_cellItem 75 = .ok (.iload_n 1, 1) := by decide +kernel
theorem dX12_cellItem_76 : decode cX12_cellItem 76 = .ok (.aload_n 0, 1) := by decide +kernel
theorem dX12_cellItem_77 : decode cX12_cellItem 77 = .ok (.getfield 94, 3) := by decide +kernel
theorem dX12_cellItem_80 : decode cX12_cellItem 80 = .ok (.iconst 0, 1) := by decide +kernel
theorem dX12_cellItem_81 : decode cX12_cellItem 81 = .ok (.iaload, 1) := by decide +kernel
theorem dX12_cellItem_82 : decode cX12_cellItem 82 = .ok (.iastore, 1) := by decide +kernel
theorem dX12_cellItem_83 : decode cX12_cellItem 83 = .ok (.aload_n 0, 1) := by decide +kernel
theorem dX12_cellItem_84 : decode cX12_cellItem 84 = .ok (.getfield 19, 3) := by decide +kernel
theorem dX12_cellItem_87 : decode cX12_cellItem 87 = .ok (.iload_n 1, 1) := by decide +kernel
theorem dX12_cellItem_88 : decode cX12_cellItem 88 = .ok (.aload_n 0, 1) := by decide +kernel
theorem dX12_cellItem_89 : decode cX12_cellItem 89 = .ok (.getfield 94, 3) := by decide +kernel
theorem dX12_cellItem_92 : decode cX12_cellItem 92 = .ok (.iconst 1, 1) := by decide +kernel
theorem dX12_cellItem_93 : decode cX12_cellItem 93 = .ok (.iaload, 1) := by decide +kernel
theorem dX12_cellItem_94 : decode cX12_cellItem 94 = .ok (.iastore, 1) := by decide +kernel
theorem dX12_cellItem_95 : decode cX12_cellItem 95 = .ok (.aload_n 0, 1) := by decide +kernel
theorem dX12_cellItem_96 : decode cX12_cellItem 96 = .ok (.getfield 22, 3) := by decide +kernel
theorem dX12_cellItem_99 : decode cX12_cellItem 99 = .ok (.iload_n 1, 1) := by decide +kernel
theorem dX12_cellItem_100 : decode cX12_cellItem 100 = .ok (.aload_n 0, 1) := by decide +kernel
theorem dX12_cellItem_101 : decode cX12_cellItem 101 = .ok (.getfield 94, 3) := by decide +kernel
theorem dX12_cellItem_104 : decode cX12_cellItem 104 = .ok (.iconst 2, 1) := by decide +kernel
theorem dX12_cellItem_105 : decode cX12_cellItem 105 = .ok (.iaload, 1) := by decide +kernel
theorem dX12_cellItem_106 : decode cX12_cellItem 106 = .ok (.iastore, 1) := by decide +kernel
theorem dX12_cellItem_107 : decode cX12_cellItem 107 = .ok (.aload_n 0, 1) := by decide +kernel
theorem dX12_cellItem_108 : decode cX12_cellItem 108 = .ok (.getfield 13, 3) := by decide +kernel
theorem dX12_cellItem_111 : decode cX12_cellItem 111 = .ok (.iconst 1, 1) := by decide +kernel
theorem dX12_cellItem_112 : decode cX12_cellItem 112 = .ok (.dup2, 1) := by decide +kernel
theorem dX12_cellItem_113 : decode cX12_cellItem 113 = .ok (.iaload, 1) := by decide +kernel
theorem dX12_cellItem_114 : decode cX12_cellItem 114 = .ok (.iconst 1, 1) := by decide +kernel
theorem dX12_cellItem_115 : decode cX12_cellItem 115 = .ok (.iadd, 1) := by decide +kernel
theorem dX12_cellItem_116 : decode cX12_cellItem 116 = .ok (.iastore, 1) := by decide +kernel
theorem dX12_cellItem_117 : decode cX12_cellItem 117 = .ok (.iconst 1, 1) := by decide +kernel
theorem dX12_cellItem_118 : decode cX12_cellItem 118 = .ok (.ireturn, 1) := by decide +kernel
theorem dX12_foodItem_0 : decode cX12_foodItem 0 = .ok (.bipush 10, 2) := by decide +kernel
theorem dX12_foodItem_2 : decode cX12_foodItem 2 = .ok (.aload_n 0, 1) := by decide +kernel
theorem dX12_foodItem_3 : decode cX12_foodItem 3 = .ok (.getfield 28, 3) := by decide +kernel
theorem dX12_foodItem_6 : decode cX12_foodItem 6 = .ok (.iconst 1, 1) := by decide +kernel
theorem dX12_foodItem_7 : decode cX12_foodItem 7 = .ok (.iaload, 1) := by decide +kernel
theorem dX12_foodItem_8 : decode cX12_foodItem 8 = .ok (.iadd, 1) := by decide +kernel
theorem dX12_foodItem_9 : decode cX12_foodItem 9 = .ok (.istore_n 1, 1) := by decide +kernel
theorem dX12_foodItem_10 : decode cX12_foodItem 10 = .ok (.aload_n 0, 1) := by decide +kernel
theorem dX12_foodItem_11 : decode cX12_foodItem 11 = .ok (.bipush 6, 2) := by decide +kernel
theorem dX12_foodItem_13 : decode cX12_foodItem 13 = .ok (.invokevirtual 129, 3) := by decide +kernel
theorem dX12_foodItem_16 : decode cX12_foodItem 16 = .ok (.ifCond .eq 88, 3) := by decide +kernel
theorem dX12_foodItem_19 : decode cX12_foodItem 19 = .ok (.aload_n 0, 1) := by decide +kernel
theorem dX12_foodItem_20 : decode cX12_foodItem 20 = .ok (.getfield 28, 3) := by decide +kernel
theorem dX12_foodItem_23 : decode cX12_foodItem 23 = .ok (.iconst 1, 1) := by decide +kernel
theorem dX12_foodItem_24 : decode cX12_foodItem 24 = .ok (.iaload, 1) := by decide +kernel
theorem dX12_foodItem_25 : decode cX12_foodItem 25 = .ok (.bipush 10, 2) := by decide +kernel
theorem dX12_foodItem_27 : decode cX12_foodItem 27 = .ok (.if_icmp .eq 77, 3) := by decide +kernel
theorem dX12_foodItem_30 : decode cX12_foodItem 30 = .ok (.aload_n 0, 1) := by decide +kernel
theorem dX12_foodItem_31 : decode cX12_foodItem 31 = .ok (.getfield 94, 3) := by decide +kernel
theorem dX12_foodItem_34 : decode cX12_foodItem 34 = .ok (.iconst 0, 1) := by decide +kernel
theorem dX12_foodItem_35 : decode cX12_foodItem 35 = .ok (.iaload, 1) := by decide +kernel
theorem dX12_foodItem_36 : decode cX12_foodItem 36 = .ok (.iconst 3, 1) := by decide +kernel
theorem dX12_foodItem_37 : decode cX12_foodItem 37 = .ok (.if_icmp .gt 67, 3) := by decide +kernel
theorem dX12_foodItem_40 : decode cX12_foodItem 40 = .ok (.aload_n 0, 1) := by decide +kernel
theorem dX12_foodItem_41 : decode cX12_foodItem 41 = .ok (.getfield 94, 3) := by decide +kernel
theorem dX12_foodItem_44 : decode cX12_foodItem 44 = .ok (.iconst 1, 1) := by decide +kernel
theorem dX12_foodItem_45 : decode cX12_foodItem 45 = .ok (.iaload, 1) := by decide +kernel
theorem dX12_foodItem_46 : decode cX12_foodItem 46 = .ok (.aload_n 0, 1) := by decide +kernel
theorem dX12_foodItem_47 : decode cX12_foodItem 47 = .ok (.getfield 13, 3) := by decide +kernel
theorem dX12_foodItem_50 : decode cX12_foodItem 50 = .ok (.iconst 1, 1) := by decide +kernel
theorem dX12_foodItem_51 : decode cX12_foodItem 51 = .ok (.iaload, 1) := by decide +kernel
theorem dX12_foodItem_52 : decode cX12_foodItem 52 = .ok (.if_icmp .ge 52, 3) := by decide +kernel
theorem dX12_foodItem_55 : decode cX12_foodItem 55 = .ok (.aload_n 0, 1) := by decide +kernel
theorem dX12_foodItem_56 : decode cX12_foodItem 56 = .ok (.getfield 94, 3) := by decide +kernel
theorem dX12_foodItem_59 : decode cX12_foodItem 59 = .ok (.iconst 2, 1) := by decide +kernel
theorem dX12_foodItem_60 : decode cX12_foodItem 60 = .ok (.iaload, 1) := by decide +kernel
theorem dX12_foodItem_61 : decode cX12_foodItem 61 = .ok (.bipush 99, 2) := by decide +kernel
theorem dX12_foodItem_63 : decode cX12_foodItem 63 = .ok (.if_icmp .gt 41, 3) := by decide +kernel
theorem dX12_foodItem_66 : decode cX12_foodItem 66 = .ok (.aload_n 0, 1) := by decide +kernel
theorem dX12_foodItem_67 : decode cX12_foodItem 67 = .ok (.getfield 94, 3) := by decide +kernel
theorem dX12_foodItem_70 : decode cX12_foodItem 70 = .ok (.iconst 3, 1) := by decide +kernel
theorem dX12_foodItem_71 : decode cX12_foodItem 71 = .ok (.iaload, 1) := by decide +kernel
theorem dX12_foodItem_72 : decode cX12_foodItem 72 = .ok (.i2l, 1) := by decide +kernel
theorem dX12_foodItem_73 : decode cX12_foodItem 73 = .ok (.lconst 1, 1) := by decide +kernel
theorem dX12_foodItem_74 : decode cX12_foodItem 74 = .ok (.ldc2_w 135, 3) := by decide +kernel
theorem dX12_foodItem_77 : decode cX12_foodItem 77 = .ok (.invokestatic 106, 3) := by decide +kernel
theorem dX12_foodItem_80 : decode cX12_foodItem 80 = .ok (.ifCond .eq 24, 3) := by decide +kernel
theorem dX12_foodItem_83 : decode cX12_foodItem 83 = .ok (.aload_n 0, 1) := by decide +kernel
theorem dX12_foodItem_84 : decode cX12_foodItem 84 = .ok (.getfield 94, 3) := by decide +kernel
theorem dX12_foodItem_87 : decode cX12_foodItem 87 = .ok (.iconst 4, 1) := by decide +kernel
theorem dX12_foodItem_88 : decode cX12_foodItem 88 = .ok (.iaload, 1) := by decide +kernel
theorem dX12_foodItem_89 : decode cX12_foodItem 89 = .ok (.bipush 99, 2) := by decide +kernel
theorem dX12_foodItem_91 : decode cX12_foodItem 91 = .ok (.if_icmp .gt 13, 3) := by decide +kernel
theorem dX12_foodItem_94 : decode cX12_foodItem 94 = .ok (.aload_n 0, 1) := by decide +kernel
theorem dX12_foodItem_95 : decode cX12_foodItem 95 = .ok (.getfield 94, 3) := by decide +kernel
theorem dX12_foodItem_98 : decode cX12_foodItem 98 = .ok (.iconst 5, 1) := by decide +kernel
theorem dX12_foodItem_99 : decode cX12_foodItem 99 = .ok (.iaload, 1) := by decide +kernel
theorem dX12_foodItem_100 : decode cX12_foodItem 100 = .ok (.iconst 3, 1) := by decide +kernel
theorem dX12_foodItem_101 : decode cX12_foodItem 101 = .ok (.if_icmp .le 5, 3) := by decide +kernel
theorem dX12_foodItem_104 : decode cX12_foodItem 104 = .ok (.iconst 0, 1) := by decide +kernel
theorem dX12_foodItem_105 : decode cX12_foodItem 105 = .ok (.ireturn, 1) := by decide +kernel
theorem dX12_foodItem_106 : decode cX12_foodItem 106 = .ok (.aload_n 0, 1) := by decide +kernel
theorem dX12_foodItem_107 : decode cX12_foodItem 107 = .ok (.getfield 31, 3) := by decide +kernel
theorem dX12_foodItem_110 : decode cX12_foodItem 110 = .ok (.iload_n 1, 1) := by decide +kernel
theorem dX12_foodItem_111 : decode cX12_foodItem 111 = .ok (.aload_n 0, 1) := by decide +kernel
theorem dX12_foodItem_112 : decode cX12_foodItem 112 = .ok (.getfield 94, 3) := by decide +kernel
theorem dX12_foodItem_115 : decode cX12_foodItem 115 = .ok (.iconst 0, 1) := by decide +kernel
theorem dX12_foodItem_116 : decode cX12_foodItem 116 = .ok (.iaload, 1) := by decide +kernel
theorem dX12_foodItem_117 : decode cX12_foodItem 117 = .ok (.iastore, 1) := by decide +kernel
theorem dX12_foodItem_118 : decode cX12_foodItem 118 = .ok (.aload_n 0, 1) := by decide +kernel
theorem dX12_foodItem_119 : decode cX12_foodItem 119 = .ok (.getfield 34, 3) := by decide +kernel
theorem dX12_foodItem_122 : decode cX12_foodItem 122 = .ok (.iload_n 1, 1) := by decide +kernel
theorem dX12_foodItem_123 : decode cX12_foodItem 123 = .ok (.aload_n 0, 1) := by decide +kernel
theorem dX12_foodItem_124 : decode cX12_foodItem 124 = .ok (.getfield 94, 3) := by decide +kernel
theorem dX12_foodItem_127 : decode cX12_foodItem 127 = .ok (.iconst 1, 1) := by decide +kernel
theorem dX12_foodItem_128 : decode cX12_foodItem 128 = .ok (.iaload, 1) := by decide +kernel
theorem dX12_foodItem_129 : decode cX12_foodItem 129 = .ok (.iastore, 1) := by decide +kernel
theorem dX12_foodItem_130 : decode cX12_foodItem 130 = .ok (.aload_n 0, 1) := by decide +kernel
theorem dX12_foodItem_131 : decode cX12_foodItem 131 = .ok (.getfield 37, 3) := by decide +kernel
theorem dX12_foodItem_134 : decode cX12_foodItem 134 = .ok (.iload_n 1, 1) := by decide +kernel
theorem dX12_foodItem_135 : decode cX12_foodItem 135 = .ok (.aload_n 0, 1) := by decide +kernel
theorem dX12_foodItem_136 : decode cX12_foodItem 136 = .ok (.getfield 94, 3) := by decide +kernel
theorem dX12_foodItem_139 : decode cX12_foodItem 139 = .ok (.iconst 2, 1) := by decide +kernel
theorem dX12_foodItem_140 : decode cX12_foodItem 140 = .ok (.iaload, 1) := by decide +kernel
theorem dX12_foodItem_141 : decode cX12_foodItem 141 = .ok (.iastore, 1) := by decide +kernel
theorem dX12_foodItem_142 : decode cX12_foodItem 142 = .ok (.aload_n 0, 1) := by decide +kernel
theorem dX12_foodItem_143 : decode cX12_foodItem 143 = .ok (.getfield 40, 3) := by decide +kernel
theorem dX12_foodItem_146 : decode cX12_foodItem 146 = .ok (.iload_n 1, 1) := by decide +kernel
theorem dX12_foodItem_147 : decode cX12_foodItem 147 = .ok (.aload_n 0, 1) := by decide +kernel
theorem dX12_foodItem_148 : decode cX12_foodItem 148 = .ok (.getfield 94, 3) := by decide +kernel
theorem dX12_foodItem_151 : decode cX12_foodItem 151 = .ok (.iconst 3, 1) := by decide +kernel
theorem dX12_foodItem_152 : decode cX12_foodItem 152 = .ok (.iaload, 1) := by decide +kernel
theorem dX12_foodItem_153 : decode cX12_foodItem 153 = .ok (.iastore, 1) := by decide +kernel
theorem dX12_foodItem_154 : decode cX12_foodItem 154 = .ok (.aload_n 0, 1) := by decide +kernel
theorem dX12_foodItem_155 : decode cX12_foodItem 155 = .ok (.getfield 43, 3) := by decide +kernel
theorem dX12_foodItem_158 : decode cX12_foodItem 158 = .ok (.iload_n 1, 1) := by decide +kernel
theorem dX12_foodItem_159 : decode cX12_foodItem 159 = .ok (.aload_n 0, 1) := by decide +kernel
theorem dX12_foodItem_160 : decode cX12_foodItem 160 = .ok (.getfield 94, 3) := by decide +kernel
theorem dX12_foodItem_163 : decode cX12_foodItem 163 = .ok (.iconst 4, 1) := by decide +kernel
theorem dX12_foodItem_164 : decode cX12_foodItem 164 = .ok (.iaload, 1) := by decide +kernel
theorem dX12_foodItem_165 : decode cX12_foodItem 165 = .ok (.iastore, 1) := by decide +kernel
theorem dX12_foodItem_166 : decode cX12_foodItem 166 = .ok (.aload_n 0, 1) := by decide +kernel
theorem dX12_foodItem_167 : decode cX12_foodItem 167 = .ok (.getfield 46, 3) := by decide +kernel
theorem dX12_foodItem_170 : decode cX12_foodItem 170 = .ok (.iload_n 1, 1) := by decide +kernel
theorem dX12_foodItem_171 : decode cX12_foodItem 171 = .ok (.aload_n 0, 1) := by decide +kernel
theorem dX12_foodItem_172 : decode cX12_foodItem 172 = .ok (.getfield 94, 3) := by decide +kernel
theorem dX12_foodItem_175 : decode cX12_foodItem 175 = .ok (.iconst 5, 1) := by decide +kernel
theorem dX12_foodItem_176 : decode cX12_foodItem 176 = .ok (.iaload, 1) := by decide +kernel
theorem dX12_foodItem_177 : decode cX12_foodItem 177 = .ok (.iastore, 1) := by decide +kernel
theorem dX12_foodItem_178 : decode cX12_foodItem 178 = .ok (.aload_n 0, 1) := by decide +kernel
theorem dX12_foodItem_179 : decode cX12_foodItem 179 = .ok (.getfield 28, 3) := by decide +kernel
theorem dX12_foodItem_182 : decode cX12_foodItem 182 = .ok (.iconst 1, 1) := by decide +kernel
theorem dX12_foodItem_183 : decode cX12_foodItem 183 = .ok (.dup2, 1) := by decide +kernel
theorem dX12_foodItem_184 : decode cX12_foodItem 184 = .ok (.iaload, 1) := by decide +kernel
theorem dX12_foodItem_185 : decode cX12_foodItem 185 = .ok (.iconst 1, 1) := by decide +kernel
theorem dX12_foodItem_186 : decode cX12_foodItem 186 = .ok (.iadd, 1) := by decide +kernel
theorem dX12_foodItem_187 : decode cX12_foodItem 187 = .ok (.iastore, 1) := by decide +kernel
theorem dX12_foodItem_188 : decode cX12_foodItem 188 = .ok (.iconst 1, 1) := by decide +kernel
theorem dX12_foodItem_189 : decode cX12_foodItem 189 = .ok (.ireturn, 1) := by decide +kernel
theorem dX12_item_0 : decode cX12_item 0 = .ok (.aload_n 0, 1) := by decide +kernel
theorem dX12_item_1 : decode cX12_item 1 = .ok (.aload_n 0, 1) := by decide +kernel
theorem dX12_item_2 : decode cX12_item 2 = .ok (.getfield 116, 3) := by decide +kernel
theorem dX12_item_5 : decode cX12_item 5 = .ok (.invokevirtual 119, 3) := by decide +kernel
theorem dX12_item_8 : decode cX12_item 8 = .ok (.istore_n 1, 1) := by decide +kernel
theorem dX12_item_9 : decode cX12_item 9 = .ok (.aload_n 0, 1) := by decide +kernel
theorem dX12_item_10 : decode cX12_item 10 = .ok (.dup, 1) := by decide +kernel
theorem dX12_item_11 : decode cX12_item 11 = .ok (.getfield 116, 3) := by decide +kernel
theorem dX12_item_14 : decode cX12_item 14 = .ok (.iconst 1, 1) := by decide +kernel
theorem dX12_item_15 : decode cX12_item 15 = .ok (.iadd, 1) := by decide +kernel
theorem dX12_item_16 : decode cX12_item 16 = .ok (.putfield 116, 3) := by decide +kernel
theorem dX12_item_19 : decode cX12_item 19 = .ok (.iload_n 1, 1) := by decide +kernel
theorem dX12_item_20 : decode cX12_item 20 = .ok (.tableswitch 473 98 115 #[369, 88, 138, 206, 93, 268, 473, 473, 473, 473, 473, 473, 473, 98, 473, 473, 473, 439], 88) := by decide +kernel
theorem dX12_item_108 : decode cX12_item 108 = .ok (.aload_n 0, 1) := by decide +kernel
theorem dX12_item_109 : decode cX12_item 109 = .ok (.invokevirtual 137, 3) := by decide +kernel
theorem dX12_item_112 : decode cX12_item 112 = .ok (.ireturn, 1) := by decide +kernel
theorem dX12_item_113 : decode cX12_item 113 = .ok (.aload_n 0, 1) := by decide +kernel
theorem dX12_item_114 : decode cX12_item 114 = .ok (.invokevirtual 141, 3) := by decide +kernel
theorem dX12_item_117 : decode cX12_item 117 = .ok (.ireturn, 1) := by decide +kernel
theorem dX12_item_118 : decode cX12_item 118 = .ok (.aload_n 0, 1) := by decide +kernel
theorem dX12_item_119 : decode cX12_item 119 = .ok (.iconst 1, 1) := by decide +kernel
theorem dX12_item_120 : decode cX12_item 120 = .ok (.invokevirtual 129, 3) := by decide +kernel
theorem dX12_item_123 : decode cX12_item 123 = .ok (.ifCond .eq 14, 3) := by decide +kernel
theorem dX12_item_126 : decode cX12_item 126 = .ok (.aload_n 0, 1) := by decide +kernel
theorem dX12_item_127 : decode cX12_item 127 = .ok (.getfield 94, 3) := by decide +kernel
theorem dX12_item_130 : decode cX12_item 130 = .ok (.iconst 0, 1) := by decide +kernel
theorem dX12_item_131 : decode cX12_item 131 = .ok (.iaload, 1) := by decide +kernel
theorem dX12_item_132 : decode cX12_item 132 = .ok (.bipush 23, 2) := by decide +kernel
theorem dX12_item_134 : decode cX12_item 134 = .ok (.if_icmp .le 5, 3) := by decide +kernel
theorem dX12_item_137 : decode cX12_item 137 = .ok (.iconst 0, 1) := by decide +kernel
theorem dX12_item_138 : decode cX12_item 138 = .ok (.ireturn, 1) := by decide +kernel
theorem dX12_item_139 : decode cX12_item 139 = .ok (.aload_n 0, 1) := by decide +kernel
theorem dX12_item_140 : decode cX12_item 140 = .ok (.getfield 25, 3) := by decide +kernel
theorem dX12_item_143 : decode cX12_item 143 = .ok (.iconst 1, 1) := by decide +kernel
theorem dX12_item_144 : decode cX12_item 144 = .ok (.dup2, 1) := by decide +kernel
theorem dX12_item_145 : decode cX12_item 145 = .ok (.iaload, 1) := by decide +kernel
theorem dX12_item_146 : decode cX12_item 146 = .ok (.iconst 1, 1) := by decide +kernel
theorem dX12_item_147 : decode cX12_item 147 = .ok (.aload_n 0, 1) := by decide +kernel
theorem dX12_item_148 : decode cX12_item 148 = .ok (.getfield 94, 3) := by decide +kernel
theorem dX12_item_151 : decode cX12_item 151 = .ok (.iconst 0, 1) := by decide +kernel
theorem dX12_item_152 : decode cX12_item 152 = .ok (.iaload, 1) := by decide +kernel
theorem dX12_item_153 : decode cX12_item 153 = .ok (.ishl, 1) := by decide +kernel
theorem dX12_item_154 : decode cX12_item 154 = .ok (.ior, 1) := by decide +kernel
theorem dX12_item_155 : decode cX12_item 155 = .ok (.iastore, 1) := by decide +kernel
theorem dX12_item_156 : decode cX12_item 156 = .ok (.iconst 1, 1) := by decide +kernel
theorem dX12_item_157 : decode cX12_item 157 = .ok (.ireturn, 1) := by decide +kernel
theorem dX12_item_158 : decode cX12_item 158 = .ok (.aload_n 0, 1) := by decide +kernel
theorem dX12_item_159 : decode cX12_item 159 = .ok (.iconst 1, 1) := by decide +kernel
theorem dX12_item_160 : decode cX12_item 160 = .ok (.invokevirtual 129, 3) := by decide +kernel
theorem dX12_item_163 : decode cX12_item 163 = .ok (.ifCond .eq 30, 3) := by decide +kernel
theorem dX12_item_166 : decode cX12_item 166 = .ok (.aload_n 0, 1) := by decide +kernel
theorem dX12_item_167 : decode cX12_item 167 = .ok (.getfield 49, 3) := by decide +kernel
theorem dX12_item_170 : decode cX12_item 170 = .ok (.iconst 1, 1) := by decide +kernel
theorem dX12_item_171 : decode cX12_item 171 = .ok (.iaload, 1) := by decide +kernel
theorem dX12_item_172 : decode cX12_item 172 = .ok (.iconst 5, 1) := by decide +kernel
theorem dX12_item_173 : decode cX12_item 173 = .ok (.if_icmp .eq 20, 3) := by decide +kernel
theorem dX12_item_176 : decode cX12_item 176 = .ok (.aload_n 0, 1) := by decide +kernel
theorem dX12_item_177 : decode cX12_item 177 = .ok (.getfield 94, 3) := by decide +kernel
theorem dX12_item_180 : decode cX12_item 180 = .ok (.iconst 0, 1) := by decide +kernel
theorem dX12_item_181 : decode cX12_item 181 = .ok (.iaload, 1) := by decide +kernel
theorem dX12_item_182 : decode cX12_item 182 = .ok (.i2l, 1) := by decide +kernel
theorem dX12_item_183 : decode cX12_item 183 = .ok (.lconst 1, 1) := by decide +kernel
theorem dX12_item_184 : decode cX12_item 184 = .ok (.ldc2_w 144, 3) := by decide +kernel
theorem dX12_item_187 : decode cX12_item 187 = .ok (.invokestatic 106, 3) := by decide +kernel
theorem dX12_item_190 : decode cX12_item 190 = .ok (.ifCond .ne 5, 3) := by decide +kernel
theorem dX12_item_193 : decode cX12_item 193 = .ok (.iconst 0, 1) := by decide +kernel
theorem dX12_item_194 : decode cX12_item 194 = .ok (.ireturn, 1) := by decide +kernel
theorem dX12_item_195 : decode cX12_item 195 = .ok (.aload_n 0, 1) := by decide +kernel
theorem dX12_item_196 : decode cX12_item 196 = .ok (.getfield 52, 3) := by decide +kernel
theorem dX12_item_199 : decode cX12_item 199 = .ok (.iconst 5, 1) := by decide +kernel
theorem dX12_item_200 : decode cX12_item 200 = .ok (.aload_n 0, 1) := by decide +kernel
theorem dX12_item_201 : decode cX12_item 201 = .ok (.getfield 49, 3) := by decide +kernel
theorem dX12_item_204 : decode cX12_item 204 = .ok (.iconst 1, 1) := by decide +kernel
theorem dX12_item_205 : decode cX12_item 205 = .ok (.iaload, 1) := by decide +kernel
theorem dX12_item_206 : decode cX12_item 206 = .ok (.iadd, 1) := by decide +kernel
theorem dX12_item_207 : decode cX12_item 207 = .ok (.aload_n 0, 1) := by decide +kernel
theorem dX12_item_208 : decode cX12_item 208 = .ok (.getfield 94, 3) := by decide +kernel
theorem dX12_item_211 : decode cX12_item 211 = .ok (.iconst 0, 1) := by decide +kernel
theorem dX12_item_212 : decode cX12_item 212 = .ok (.iaload, 1) := by decide +kernel
theorem dX12_item_213 : decode cX12_item 213 = .ok (.iastore, 1) := by decide +kernel
theorem dX12_item_214 : decode cX12_item 214 = .ok (.aload_n 0, 1) := by decide +kernel
theorem dX12_item_215 : decode cX12_item 215 = .ok (.getfield 49, 3) := by decide +kernel
theorem dX12_item_218 : decode cX12_item 218 = .ok (.iconst 1, 1) := by decide +kernel
theorem dX12_item_219 : decode cX12_item 219 = .ok (.dup2, 1) := by decide +kernel
theorem dX12_item_220 : decode cX12_item 220 = .ok (.iaload, 1) := by decide +kernel
theorem dX12_item_221 : decode cX12_item 221 = .ok (.iconst 1, 1) := by decide +kernel
theorem dX12_item_222 : decode cX12_item 222 = .ok (.iadd, 1) := by decide +kernel
theorem dX12_item_223 : decode cX12_item 223 = .ok (.iastore, 1) := by decide +kernel
theorem dX12_item_224 : decode cX12_item 224 = .ok (.iconst 1, 1) := by decide +kernel
theorem dX12_item_225 : decode cX12_item 225 = .ok (.ireturn, 1) := by decide +kernel
theorem dX12_item_226 : decode cX12_item 226 = .ok (.aload_n 0, 1) := by decide +kernel
theorem dX12_item_227 : decode cX12_item 227 = .ok (.iconst 1, 1) := by decide +kernel
theorem dX12_item_228 : decode cX12_item 228 = .ok (.invokevirtual 129, 3) := by decide +kernel
theorem dX12_item_231 : decode cX12_item 231 = .ok (.ifCond .eq 24, 3) := by decide +kernel
theorem dX12_item_234 : decode cX12_item 234 = .ok (.aload_n 0, 1) := by decide +kernel
theorem dX12_item_235 : decode cX12_item 235 = .ok (.getfield 55, 3) := by decide +kernel
theorem dX12_item_238 : decode cX12_item 238 = .ok (.iconst 1, 1) := by decide +kernel
theorem dX12_item_239 : decode cX12_item 239 = .ok (.iaload, 1) := by decide +kernel
theorem dX12_item_240 : decode cX12_item 240 = .ok (.iconst 4, 1) := by decide +kernel
theorem dX12_item_241 : decode cX12_item 241 = .ok (.if_icmp .eq 14, 3) := by decide +kernel
theorem dX12_item_244 : decode cX12_item 244 = .ok (.aload_n 0, 1) := by decide +kernel
theorem dX12_item_245 : decode cX12_item 245 = .ok (.getfield 94, 3) := by decide +kernel
theorem dX12_item_248 : decode cX12_item 248 = .ok (.iconst 0, 1) := by decide +kernel
theorem dX12_item_249 : decode cX12_item 249 = .ok (.iaload, 1) := by decide +kernel
theorem dX12_item_250 : decode cX12_item 250 = .ok (.bipush 15, 2) := by decide +kernel
theorem dX12_item_252 : decode cX12_item 252 = .ok (.if_icmp .le 5, 3) := by decide +kernel
theorem dX12_item_255 : decode cX12_item 255 = .ok (.iconst 0, 1) := by decide +kernel
theorem dX12_item_256 : decode cX12_item 256 = .ok (.ireturn, 1) := by decide +kernel
theorem dX12_item_257 : decode cX12_item 257 = .ok (.aload_n 0, 1) := by decide +kernel
theorem dX12_item_258 : decode cX12_item 258 = .ok (.getfield 58, 3) := by decide +kernel
theorem dX12_item_261 : decode cX12_item 261 = .ok (.iconst 4, 1) := by decide +kernel
theorem dX12_item_262 : decode cX12_item 262 = .ok (.aload_n 0, 1) := by decide +kernel
theorem dX12_item_263 : decode cX12_item 263 = .ok (.getfield 55, 3) := by decide +kernel
theorem dX12_item_266 : decode cX12_item 266 = .ok (.iconst 1, 1) := by decide +kernel
theorem dX12_item_267 : decode cX12_item 267 = .ok (.iaload, 1) := by decide +kernel
theorem dX12_item_268 : decode cX12_item 268 = .ok (.iadd, 1) := by decide +kernel
theorem dX12_item_269 : decode cX12_item 269 = .ok (.aload_n 0, 1) := by decide +kernel
theorem dX12_item_270 : decode cX12_item 270 = .ok (.getfield 94, 3) := by decide +kernel
theorem dX12_item_273 : decode cX12_item 273 = .ok (.iconst 0, 1) := by decide +kernel
theorem dX12_item_274 : decode cX12_item 274 = .ok (.iaload, 1) := by decide +kernel
theorem dX12_item_275 : decode cX12_item 275 = .ok (.iastore, 1) := by decide +kernel
theorem dX12_item_276 : decode cX12_item 276 = .ok (.aload_n 0, 1) := by decide +kernel
theorem dX12_item_277 : decode cX12_item 277 = .ok (.getfield 55, 3) := by decide +kernel
theorem dX12_item_280 : decode cX12_item 280 = .ok (.iconst 1, 1) := by decide +kernel
theorem dX12_item_281 : decode cX12_item 281 = .ok (.dup2, 1) := by decide +kernel
theorem dX12_item_282 : decode cX12_item 282 = .ok (.iaload, 1) := by decide +kernel
theorem dX12_item_283 : decode cX12_item 283 = .ok (.iconst 1, 1) := by decide +kernel
theorem dX12_item_284 : decode cX12_item 284 = .ok (.iadd, 1) := by decide +kernel
theorem dX12_item_285 : decode cX12_item 285 = .ok (.iastore, 1) := by decide +kernel
theorem dX12_item_286 : decode cX12_item 286 = .ok (.iconst 1, 1) := by decide +kernel
theorem dX12_item_287 : decode cX12_item 287 = .ok (.ireturn, 1) := by decide +kernel
theorem dX12_item_288 : decode cX12_item 288 = .ok (.aload_n 0, 1) := by decide +kernel
theorem dX12_item_289 : decode cX12_item 289 = .ok (.iconst 2, 1) := by decide +kernel
theorem dX12_item_290 : decode cX12_item 290 = .ok (.invokevirtual 129, 3) := by decide +kernel
theorem dX12_item_293 : decode cX12_item 293 = .ok (.ifCond .eq 42, 3) := by decide +kernel
theorem dX12_item_296 : decode cX12_item 296 = .ok (.aload_n 0, 1) := by decide +kernel
theorem dX12_item_297 : decode cX12_item 297 = .ok (.getfield 61, 3) := by decide +kernel
theorem dX12_item_300 : decode cX12_item 300 = .ok (.iconst 1, 1) := by decide +kernel
theorem dX12_item_301 : decode cX12_item 301 = .ok (.iaload, 1) := by decide +kernel
theorem dX12_item_302 : decode cX12_item 302 = .ok (.bipush 6, 2) := by decide +kernel
theorem dX12_item_304 : decode cX12_item 304 = .ok (.if_icmp .eq 31, 3) := by decide +kernel
theorem dX12_item_307 : decode cX12_item 307 = .ok (.aload_n 0, 1) := by decide +kernel
theorem dX12_item_308 : decode cX12_item 308 = .ok (.getfield 94, 3) := by decide +kernel
theorem dX12_item_311 : decode cX12_item 311 = .ok (.iconst 0, 1) := by decide +kernel
theorem dX12_item_312 : decode cX12_item 312 = .ok (.iaload, 1) := by decide +kernel
theorem dX12_item_313 : decode cX12_item 313 = .ok (.bipush 9, 2) := by decide +kernel
theorem dX12_item_315 : decode cX12_item 315 = .ok (.if_icmp .gt 20, 3) := by decide +kernel
theorem dX12_item_318 : decode cX12_item 318 = .ok (.aload_n 0, 1) := by decide +kernel
theorem dX12_item_319 : decode cX12_item 319 = .ok (.getfield 94, 3) := by decide +kernel
theorem dX12_item_322 : decode cX12_item 322 = .ok (.iconst 1, 1) := by decide +kernel
theorem dX12_item_323 : decode cX12_item 323 = .ok (.iaload, 1) := by decide +kernel
theorem dX12_item_324 : decode cX12_item 324 = .ok (.i2l, 1) := by decide +kernel
theorem dX12_item_325 : decode cX12_item 325 = .ok (.lconst 1, 1) := by decide +kernel
theorem dX12_item_326 : decode cX12_item 326 = .ok (.ldc2_w 146, 3) := by decide +kernel
theorem dX12_item_329 : decode cX12_item 329 = .ok (.invokestatic 106, 3) := by decide +kernel
theorem dX12_item_332 : decode cX12_item 332 = .ok (.ifCond .ne 5, 3) := by decide +kernel
theorem dX12_item_335 : decode cX12_item 335 = .ok (.iconst 0, 1) := by decide +kernel
theorem dX12_item_336 : decode cX12_item 336 = .ok (.ireturn, 1) := by decide +kernel
theorem dX12_item_337 : decode cX12_item 337 = .ok (.aload_n 0, 1) := by decide +kernel
theorem dX12_item_338 : decode cX12_item 338 = .ok (.getfield 64, 3) := by decide +kernel
theorem dX12_item_341 : decode cX12_item 341 = .ok (.bipush 6, 2) := by decide +kernel
theorem dX12_item_343 : decode cX12_item 343 = .ok (.aload_n 0, 1) := by decide +kernel
theorem dX12_item_344 : decode cX12_item 344 = .ok (.getfield 61, 3) := by decide +kernel
theorem dX12_item_347 : decode cX12_item 347 = .ok (.iconst 1, 1) := by decide +kernel
theorem dX12_item_348 : decode cX12_item 348 = .ok (.iaload, 1) := by decide +kernel
theorem dX12_item_349 : decode cX12_item 349 = .ok (.iadd, 1) := by decide +kernel
theorem dX12_item_350 : decode cX12_item 350 = .ok (.aload_n 0, 1) := by decide +kernel
theorem dX12_item_351 : decode cX12_item 351 = .ok (.getfield 94, 3) := by decide +kernel
theorem dX12_item_354 : decode cX12_item 354 = .ok (.iconst 0, 1) := by decide +kernel
theorem dX12_item_355 : decode cX12_item 355 = .ok (.iaload, 1) := by decide +kernel
theorem dX12_item_356 : decode cX12_item 356 = .ok (.iastore, 1) := by decide +kernel
theorem dX12_item_357 : decode cX12_item 357 = .ok (.aload_n 0, 1) := by decide +kernel
theorem dX12_item_358 : decode cX12_item 358 = .ok (.getfield 67, 3) := by decide +kernel
theorem dX12_item_361 : decode cX12_item 361 = .ok (.bipush 6, 2) := by decide +kernel
theorem dX12_item_363 : decode cX12_item 363 = .ok (.aload_n 0, 1) := by decide +kernel
theorem dX12_item_364 : decode cX12_item 364 = .ok (.getfield 61, 3) := by decide +kernel
theorem dX12_item_367 : decode cX12_item 367 = .ok (.iconst 1, 1) := by decide +kernel
theorem dX12_item_368 : decode cX12_item 368 = .ok (.iaload, 1) := by decide +kernel
theorem dX12_item_369 : decode cX12_item 369 = .ok (.iadd, 1) := by decide +kernel
theorem dX12_item_370 : decode cX12_item 370 = .ok (.aload_n 0, 1) := by decide +kernel
theorem dX12_item_371 : decode cX12_item 371 = .ok (.getfield 94, 3) := by decide +kernel
theorem dX12_item_374 : decode cX12_item 374 = .ok (.iconst 1, 1) := by decide +kernel
theorem dX12_item_375 : decode cX12_item 375 = .ok (.iaload, 1) := by decide +kernel
theorem dX12_item_376 : decode cX12_item 376 = .ok (.iastore, 1) := by decide +kernel
theorem dX12_item_377 : decode cX12_item 377 = .ok (.aload_n 0, 1) := by decide +kernel
theorem dX12_item_378 : decode cX12_item 378 = .ok (.getfield 61, 3) := by decide +kernel
theorem dX12_item_381 : decode cX12_item 381 = .ok (.iconst 1, 1) := by decide +kernel
theorem dX12_item_382 : decode cX12_item 382 = .ok (.dup2, 1) := by decide +kernel
theorem dX12_item_383 : decode cX12_item 383 = .ok (.iaload, 1) := by decide +kernel
theorem dX12_item_384 : decode cX12_item 384 = .ok (.iconst 1, 1) := by decide +kernel
theorem dX12_item_385 : decode cX12_item 385 = .ok (.iadd, 1) := by decide +kernel
theorem dX12_item_386 : decode cX12_item 386 = .ok (.iastore, 1) := by decide +kernel
theorem dX12_item_387 : decode cX12_item 387 = .ok (.iconst 1, 1) := by decide +kernel
theorem dX12_item_388 : decode cX12_item 388 = .ok (.ireturn, 1) := by decide +kernel
theorem dX12_item_389 : decode cX12_item 389 = .ok (.aload_n 0, 1) := by decide +kernel
theorem dX12_item_390 : decode cX12_item 390 = .ok (.iconst 2, 1) := by decide +kernel
theorem dX12_item_391 : decode cX12_item 391 = .ok (.invokevirtual 129, 3) := by decide +kernel
theorem dX12_item_394 : decode cX12_item 394 = .ok (.ifCond .eq 37, 3) := by decide +kernel
theorem dX12_item_397 : decode cX12_item 397 = .ok (.aload_n 0, 1) := by decide +kernel
theorem dX12_item_398 : decode cX12_item 398 = .ok (.getfield 94, 3) := by decide +kernel
theorem dX12_item_401 : decode cX12_item 401 = .ok (.iconst 0, 1) := by decide +kernel
theorem dX12_item_402 : decode cX12_item 402 = .ok (.iaload, 1) := by decide +kernel
theorem dX12_item_403 : decode cX12_item 403 = .ok (.i2l, 1) := by decide +kernel
theorem dX12_item_404 : decode cX12_item 404 = .ok (.lconst 1, 1) := by decide +kernel
theorem dX12_item_405 : decode cX12_item 405 = .ok (.ldc2_w 146, 3) := by decide +kernel
theorem dX12_item_408 : decode cX12_item 408 = .ok (.invokestatic 106, 3) := by decide +kernel
theorem dX12_item_411 : decode cX12_item 411 = .ok (.ifCond .eq 20, 3) := by decide +kernel
theorem dX12_item_414 : decode cX12_item 414 = .ok (.aload_n 0, 1) := by decide +kernel
theorem dX12_item_415 : decode cX12_item 415 = .ok (.getfield 94, 3) := by decide +kernel
theorem dX12_item_418 : decode cX12_item 418 = .ok (.iconst 1, 1) := by decide +kernel
theorem dX12_item_419 : decode cX12_item 419 = .ok (.iaload, 1) := by decide +kernel
theorem dX12_item_420 : decode cX12_item 420 = .ok (.i2l, 1) := by decide +kernel
theorem dX12_item_421 : decode cX12_item 421 = .ok (.lconst 1, 1) := by decide +kernel
theorem dX12_item_422 : decode cX12_item 422 = .ok (.ldc2_w 148, 3) := by decide +kernel
theorem dX12_item_425 : decode cX12_item 425 = .ok (.invokestatic 106, 3) := by decide +kernel
theorem dX12_item_428 : decode cX12_item 428 = .ok (.ifCond .ne 5, 3) := by decide +kernel
theorem dX12_item_431 : decode cX12_item 431 = .ok (.iconst 0, 1) := by decide +kernel
theorem dX12_item_432 : decode cX12_item 432 = .ok (.ireturn, 1) := by decide +kernel
theorem dX12_item_433 : decode cX12_item 433 = .ok (.aload_n 0, 1) := by decide +kernel
theorem dX12_item_434 : decode cX12_item 434 = .ok (.getfield 70, 3) := by decide +kernel
theorem dX12_item_437 : decode cX12_item 437 = .ok (.iconst 3, 1) := by decide +kernel
theorem dX12_item_438 : decode cX12_item 438 = .ok (.aload_n 0, 1) := by decide +kernel
theorem dX12_item_439 : decode cX12_item 439 = .ok (.getfield 94, 3) := by decide +kernel
theorem dX12_item_442 : decode cX12_item 442 = .ok (.iconst 0, 1) := by decide +kernel
theorem dX12_item_443 : decode cX12_item 443 = .ok (.iaload, 1) := by decide +kernel
theorem dX12_item_444 : decode cX12_item 444 = .ok (.iastore, 1) := by decide +kernel
theorem dX12_item_445 : decode cX12_item 445 = .ok (.aload_n 0, 1) := by decide +kernel
theorem dX12_item_446 : decode cX12_item 446 = .ok (.getfield 70, 3) := by decide +kernel
theorem dX12_item_449 : decode cX12_item 449 = .ok (.iconst 4, 1) := by decide +kernel
theorem dX12_item_450 : decode cX12_item 450 = .ok (.aload_n 0, 1) := by decide +kernel
theorem dX12_item_451 : decode cX12_item 451 = .ok (.getfield 94, 3) := by decide +kernel
theorem dX12_item_454 : decode cX12_item 454 = .ok (.iconst 1, 1) := by decide +kernel
theorem dX12_item_455 : decode cX12_item 455 = .ok (.iaload, 1) := by decide +kernel
theorem dX12_item_456 : decode cX12_item 456 = .ok (.iastore, 1) := by decide +kernel
theorem dX12_item_457 : decode cX12_item 457 = .ok (.iconst 1, 1) := by decide +kernel
theorem dX12_item_458 : decode cX12_item 458 = .ok (.ireturn, 1) := by decide +kernel
theorem dX12_item_459 : decode cX12_item 459 = .ok (.aload_n 0, 1) := by decide +kernel
theorem dX12_item_460 : decode cX12_item 460 = .ok (.iconst 1, 1) := by decide +kernel
theorem dX12_item_461 : decode cX12_item 461 = .ok (.invokevirtual 129, 3) := by decide +kernel
theorem dX12_item_464 : decode cX12_item 464 = .ok (.ifCond .eq 13, 3) := by decide +kernel
theorem dX12_item_467 : decode cX12_item 467 = .ok (.aload_n 0, 1) := by decide +kernel
theorem dX12_item_468 : decode cX12_item 468 = .ok (.getfield 94, 3) := by decide +kernel
theorem dX12_item_471 : decode cX12_item 471 = .ok (.iconst 0, 1) := by decide +kernel
theorem dX12_item_472 : decode cX12_item 472 = .ok (.iaload, 1) := by decide +kernel
theorem dX12_item_473 : decode cX12_item 473 = .ok (.iconst 4, 1) := by decide +kernel
theorem dX12_item_474 : decode cX12_item 474 = .ok (.if_icmp .le 5, 3) := by decide +kernel
theorem dX12_item_477 : decode cX12_item 477 = .ok (.iconst 0, 1) := by decide +kernel
theorem dX12_item_478 : decode cX12_item 478 = .ok (.ireturn, 1) := by decide +kernel
theorem dX12_item_479 : decode cX12_item 479 = .ok (.aload_n 0, 1) := by decide +kernel
theorem dX12_item_480 : decode cX12_item 480 = .ok (.getfield 70, 3) := by decide +kernel
theorem dX12_item_483 : decode cX12_item 483 = .ok (.iconst 5, 1) := by decide +kernel
theorem dX12_item_484 : decode cX12_item 484 = .ok (.aload_n 0, 1) := by decide +kernel
theorem dX12_item_485 : decode cX12_item 485 = .ok (.getfield 94, 3) := by decide +kernel
theorem dX12_item_488 : decode cX12_item 488 = .ok (.iconst 0, 1) := by decide +kernel
theorem dX12_item_489 : decode cX12_item 489 = .ok (.iaload, 1) := by decide +kernel
theorem dX12_item_490 : decode cX12_item 490 = .ok (.iastore, 1) := by decide +kernel
theorem dX12_item_491 : decode cX12_item 491 = .ok (.iconst 1, 1) := by decide +kernel
theorem dX12_item_492 : decode cX12_item 492 = .ok (.ireturn, 1) := by decide +kernel
theorem dX12_item_493 : decode cX12_item 493 = .ok (.iconst 0, 1) := by decide +kernel
theorem dX12_item_494 : decode cX12_item 494 = .ok (.ireturn, 1) := by decide +kernel
theorem dX12_readAll_0 : decode cX12_readAll 0 = .ok (.aload_n 0, 1) := by decide +kernel
theorem dX12_readAll_1 : decode cX12_readAll 1 = .ok (.iconst 1, 1) := by decide +kernel
theorem dX12_readAll_2 : decode cX12_readAll 2 = .ok (.invokevirtual 97, 3) := by decide +kernel
theorem dX12_readAll_5 : decode cX12_readAll 5 = .ok (.aload_n 0, 1) := by decide +kernel
theorem dX12_readAll_6 : decode cX12_readAll 6 = .ok (.iconst 0, 1) := by decide +kernel
theorem dX12_readAll_7 : decode cX12_readAll 7 = .ok (.putfield 116, 3) := by decide +kernel
theorem dX12_readAll_10 : decode cX12_readAll 10 = .ok (.aload_n 0, 1) := by decide +kernel
theorem dX12_readAll_11 : decode cX12_readAll 11 = .ok (.getfield 116, 3) := by decide +kernel
theorem dX12_readAll_14 : decode cX12_readAll 14 = .ok (.aload_n 0, 1) := by decide +kernel
theorem dX12_readAll_15 : decode cX12_readAll 15 = .ok (.getfield 110, 3) := by decide +kernel
theorem dX12_readAll_18 : decode cX12_readAll 18 = .ok (.if_icmp .ge 20, 3) := by decide +kernel
theorem dX12_readAll_21 : decode cX12_readAll 21 = .ok (.aload_n 0, 1) := by decide +kernel
theorem dX12_readAll_22 : decode cX12_readAll 22 = .ok (.getfield 116, 3) := by decide +kernel
theorem dX12_readAll_25 : decode cX12_readAll 25 = .ok (.istore_n 1, 1) := by decide +kernel
theorem dX12_readAll_26 : decode cX12_readAll 26 = .ok (.aload_n 0, 1) := by decide +kernel
theorem dX12_readAll_27 : decode cX12_readAll 27 = .ok (.invokevirtual 150, 3) := by decide +kernel
theorem dX12_readAll_30 : decode cX12_readAll 30 = .ok (.ifCond .ne 5, 3) := by decide +kernel
theorem dX12_readAll_33 : decode cX12_readAll 33 = .ok (.iload_n 1, 1) := by decide +kernel
theorem dX12_readAll_34 : decode cX12_readAll 34 = .ok (.ireturn, 1) := by decide +kernel
theorem dX12_readAll_35 : decode cX12_readAll 35 = .ok (.goto (-25), 3) := by decide +kernel
theorem dX12_readAll_38 : decode cX12_readAll 38 = .ok (.bipush (-4), 2) := by decide +kernel
theorem dX12_readAll_40 : decode cX12_readAll 40 = .ok (.ireturn, 1) := by decide +kernel
theorem dX12_fault_0 : decode cX12_fault 0 = .ok (.aload_n 0, 1) := by decide +kernel
theorem dX12_fault_1 : decode cX12_fault 1 = .ok (.invokevirtual 153, 3) := by decide +kernel
theorem dX12_fault_4 : decode cX12_fault 4 = .ok (.ireturn, 1) := by decide +kernel
theorem dX12_isRoomy_0 : decode cX12_isRoomy 0 = .ok (.iconst 1, 1) := by decide +kernel
theorem dX12_isRoomy_1 : decode cX12_isRoomy 1 = .ok (.istore_n 1, 1) := by decide +kernel
theorem dX12_isRoomy_2 : decode cX12_isRoomy 2 = .ok (.iconst 0, 1) := by decide +kernel
theorem dX12_isRoomy_3 : decode cX12_isRoomy 3 = .ok (.istore_n 2, 1) := by decide +kernel
theorem dX12_isRoomy_4 : decode cX12_isRoomy 4 = .ok (.iload_n 2, 1) := by decide +kernel
theorem dX12_isRoomy_5 : decode cX12_isRoomy 5 = .ok (.aload_n 0, 1) := by decide +kernel
theorem dX12_isRoomy_6 : decode cX12_isRoomy 6 = .ok (.getfield 13, 3) := by decide +kernel
theorem dX12_isRoomy_9 : decode cX12_isRoomy 9 = .ok (.iconst 1, 1) := by decide +kernel
theorem dX12_isRoomy_10 : decode cX12_isRoomy 10 = .ok (.iaload, 1) := by decide +kernel
theorem dX12_isRoomy_11 : decode cX12_isRoomy 11 = .ok (.if_icmp .ge 76, 3) := by decide +kernel
theorem dX12_isRoomy_14 : decode cX12_isRoomy 14 = .ok (.iconst 0, 1) := by decide +kernel
theorem dX12_isRoomy_15 : decode cX12_isRoomy 15 = .ok (.istore_n 3, 1) := by decide +kernel
theorem dX12_isRoomy_16 : decode cX12_isRoomy 16 = .ok (.iconst 0, 1) := by decide +kernel
theorem dX12_isRoomy_17 : decode cX12_isRoomy 17 = .ok (.istore 4, 2) := by decide +kernel
theorem dX12_isRoomy_19 : decode cX12_isRoomy 19 = .ok (.iload 4, 2) := by decide +kernel
theorem dX12_isRoomy_21 : decode cX12_isRoomy 21 = .ok (.aload_n 0, 1) := by decide +kernel
theorem dX12_isRoomy_22 : decode cX12_isRoomy 22 = .ok (.getfield 28, 3) := by decide +kernel
theorem dX12_isRoomy_25 : decode cX12_isRoomy 25 = .ok (.iconst 1, 1) := by decide +kernel
theorem dX12_isRoomy_26 : decode cX12_isRoomy 26 = .ok (.iaload, 1) := by decide +kernel
theorem dX12_isRoomy_27 : decode cX12_isRoomy 27 = .ok (.if_icmp .ge 31, 3) := by decide +kernel
theorem dX12_isRoomy_30 : decode cX12_isRoomy 30 = .ok (.iload_n 3, 1) := by decide +kernel
theorem dX12_isRoomy_31 : decode cX12_isRoomy 31 = .ok (.aload_n 0, 1) := by decide +kernel
theorem dX12_isRoomy_32 : decode cX12_isRoomy 32 = .ok (.getfield 34, 3) := by decide +kernel
theorem dX12_isRoomy_35 : decode cX12_isRoomy 35 = .ok (.bipush 10, 2) := by decide +kernel
theorem dX12_isRoomy_37 : decode cX12_isRoomy 37 = .ok (.iload 4, 2) := by decide +kernel
theorem dX12_isRoomy_39 : decode cX12_isRoomy 39 = .ok (.iadd, 1) := by decide +kernel
theorem dX12_isRoomy_40 : decode cX12_isRoomy 40 = .ok (.iaload, 1) := by decide +kernel
theorem dX12_isRoomy_41 : decode cX12_isRoomy 41 = .ok (.iload_n 2, 1) := by decide +kernel
theorem dX12_isRoomy_42 : decode cX12_isRoomy 42 = .ok (.if_icmp .ne 7, 3) := by decide +kernel
theorem dX12_isRoomy_45 : decode cX12_isRoomy 45 = .ok (.iconst 1, 1) := by decide +kernel
theorem dX12_isRoomy_46 : decode cX12_isRoomy 46 = .ok (.goto 4, 3) := by decide +kernel
theorem dX12_isRoomy_49 : decode cX12_isRoomy 49 = .ok (.iconst 0, 1) := by decide +kernel
theorem dX12_isRoomy_50 : decode cX12_isRoomy 50 = .ok (.iadd, 1) := by decide +kernel
theorem dX12_isRoomy_51 : decode cX12_isRoomy 51 = .ok (.istore_n 3, 1) := by decide +kernel
theorem dX12_isRoomy_52 : decode cX12_isRoomy 52 = .ok (.iinc 4 1, 3) := by decide +kernel
theorem dX12_isRoomy_55 : decode cX12_isRoomy 55 = .ok (.goto (-36), 3) := by decide +kernel
theorem dX12_isRoomy_58 : decode cX12_isRoomy 58 = .ok (.iload_n 1, 1) := by decide +kernel
theorem dX12_isRoomy_59 : decode cX12_isRoomy 59 = .ok (.ifCond .eq 20, 3) := by decide +kernel
theorem dX12_isRoomy_62 : decode cX12_isRoomy 62 = .ok (.iload_n 3, 1) := by decide +kernel
theorem dX12_isRoomy_63 : decode cX12_isRoomy 63 = .ok (.aload_n 0, 1) := by decide +kernel
theorem dX12_isRoomy_64 : decode cX12_isRoomy 64 = .ok (.getfield 22, 3) := by decide +kernel
theorem dX12_isRoomy_67 : decode cX12_isRoomy 67 = .ok (.bipush 6, 2) := by decide +kernel
theorem dX12_isRoomy_69 : decode cX12_isRoomy 69 = .ok (.iload_n 2, 1) := by decide +kernel
theorem dX12_isRoomy_70 : decode cX12_isRoomy 70 = .ok (.iadd, 1) := by decide +kernel
theorem dX12_isRoomy_71 : decode cX12_isRoomy 71 = .ok (.iaload, 1) := by decide +kernel
theorem dX12_isRoomy_72 : decode cX12_isRoomy 72 = .ok (.if_icmp .gt 7, 3) := by decide +kernel
theorem dX12_isRoomy_75 : decode cX12_isRoomy 75 = .ok (.iconst 1, 1) := by decide +kernel
theorem dX12_isRoomy_76 : decode cX12_isRoomy 76 = .ok (.goto 4, 3) := by decide +kernel
theorem dX12_isRoomy_79 : decode cX12_isRoomy 79 = .ok (.iconst 0, 1) := by decide +kernel
theorem dX12_isRoomy_80 : decode cX12_isRoomy 80 = .ok (.istore_n 1, 1) := by decide +kernel
theorem dX12_isRoomy_81 : decode cX12_isRoomy 81 = .ok (.iinc 2 1, 3) := by decide +kernel
theorem dX12_isRoomy_84 : decode cX12_isRoomy 84 = .ok (.goto (-80), 3) := by decide +kernel
theorem dX12_isRoomy_87 : decode cX12_isRoomy 87 = .ok (.iload_n 1, 1) := by decide +kernel
theorem dX12_isRoomy_88 : decode cX12_isRoomy 88 = .ok (.ireturn, 1) := by decide +kernel
theorem dX12_layFridge_0 : decode cX12_layFridge 0 = .ok (.iconst 0, 1) := by decide +kernel
theorem dX12_layFridge_1 : decode cX12_layFridge 1 = .ok (.istore_n 1, 1) := by decide +kernel
theorem dX12_layFridge_2 : decode cX12_layFridge 2 = .ok (.iload_n 1, 1) := by decide +kernel
theorem dX12_layFridge_3 : decode cX12_layFridge 3 = .ok (.bipush 10, 2) := by decide +kernel
theorem dX12_layFridge_5 : decode cX12_layFridge 5 = .ok (.if_icmp .ge 68, 3) := by decide +kernel
theorem dX12_layFridge_8 : decode cX12_layFridge 8 = .ok (.aload_n 0, 1) := by decide +kernel
theorem dX12_layFridge_9 : decode cX12_layFridge 9 = .ok (.getfield 73, 3) := by decide +kernel
theorem dX12_layFridge_12 : decode cX12_layFridge 12 = .ok (.iload_n 1, 1) := by decide +kernel
theorem dX12_layFridge_13 : decode cX12_layFridge 13 = .ok (.aload_n 0, 1) := by decide +kernel
theorem dX12_layFridge_14 : decode cX12_layFridge 14 = .ok (.getfield 31, 3) := by decide +kernel
theorem dX12_layFridge_17 : decode cX12_layFridge 17 = .ok (.iload_n 1, 1) := by decide +kernel
theorem dX12_layFridge_18 : decode cX12_layFridge 18 = .ok (.iaload, 1) := by decide +kernel
theorem dX12_layFridge_19 : decode cX12_layFridge 19 = .ok (.iastore, 1) := by decide +kernel
theorem dX12_layFridge_20 : decode cX12_layFridge 20 = .ok (.aload_n 0, 1) := by decide +kernel
theorem dX12_layFridge_21 : decode cX12_layFridge 21 = .ok (.getfield 76, 3) := by decide +kernel
theorem dX12_layFridge_24 : decode cX12_layFridge 24 = .ok (.iload_n 1, 1) := by decide +kernel
theorem dX12_layFridge_25 : decode cX12_layFridge 25 = .ok (.aload_n 0, 1) := by decide +kernel
theorem dX12_layFridge_26 : decode cX12_layFridge 26 = .ok (.getfield 34, 3) := by decide +kernel
theorem dX12_layFridge_29 : decode cX12_layFridge 29 = .ok (.iload_n 1, 1) := by decide +kernel
theorem dX12_layFridge_30 : decode cX12_layFridge 30 = .ok (.iaload, 1) := by decide +kernel
theorem dX12_layFridge_31 : decode cX12_layFridge 31 = .ok (.iastore, 1) := by decide +kernel
theorem dX12_layFridge_32 : decode cX12_layFridge 32 = .ok (.aload_n 0, 1) := by decide +kernel
theorem dX12_layFridge_33 : decode cX12_layFridge 33 = .ok (.getfield 79, 3) := by decide +kernel
theorem dX12_layFridge_36 : decode cX12_layFridge 36 = .ok (.iload_n 1, 1) := by decide +kernel
theorem dX12_layFridge_37 : decode cX12_layFridge 37 = .ok (.iconst 0, 1) := by decide +kernel
theorem dX12_layFridge_38 : decode cX12_layFridge 38 = .ok (.iastore, 1) := by decide +kernel
theorem dX12_layFridge_39 : decode cX12_layFridge 39 = .ok (.aload_n 0, 1) := by decide +kernel
theorem dX12_layFridge_40 : decode cX12_layFridge 40 = .ok (.getfield 82, 3) := by decide +kernel
theorem dX12_layFridge_43 : decode cX12_layFridge 43 = .ok (.iload_n 1, 1) := by decide +kernel
theorem dX12_layFridge_44 : decode cX12_layFridge 44 = .ok (.iload_n 1, 1) := by decide +kernel
theorem dX12_layFridge_45 : decode cX12_layFridge 45 = .ok (.aload_n 0, 1) := by decide +kernel
theorem dX12_layFridge_46 : decode cX12_layFridge 46 = .ok (.getfield 28, 3) := by decide +kernel
theorem dX12_layFridge_49 : decode cX12_layFridge 49 = .ok (.iconst 0, 1) := by decide +kernel
theorem dX12_layFridge_50 : decode cX12_layFridge 50 = .ok (.iaload, 1) := by decide +kernel
theorem dX12_layFridge_51 : decode cX12_layFridge 51 = .ok (.if_icmp .ge 7, 3) := by decide +kernel
theorem dX12_layFridge_54 : decode cX12_layFridge 54 = .ok (.iconst 0, 1) := by decide +kernel
theorem dX12_layFridge_55 : decode cX12_layFridge 55 = .ok (.goto 4, 3) := by decide +kernel
theorem dX12_layFridge_58 : decode cX12_layFridge 58 = .ok (.iconst 2, 1) := by decide +kernel
theorem dX12_layFridge_59 : decode cX12_layFridge 59 = .ok (.iastore, 1) := by decide +kernel
theorem dX12_layFridge_60 : decode cX12_layFridge 60 = .ok (.aload_n 0, 1) := by decide +kernel
theorem dX12_layFridge_61 : decode cX12_layFridge 61 = .ok (.getfield 85, 3) := by decide +kernel
theorem dX12_layFridge_64 : decode cX12_layFridge 64 = .ok (.iload_n 1, 1) := by decide +kernel
theorem dX12_layFridge_65 : decode cX12_layFridge 65 = .ok (.iconst 0, 1) := by decide +kernel
theorem dX12_layFridge_66 : decode cX12_layFridge 66 = .ok (.iastore, 1) := by decide +kernel
theorem dX12_layFridge_67 : decode cX12_layFridge 67 = .ok (.iinc 1 1, 3) := by decide +kernel
theorem dX12_layFridge_70 : decode cX12_layFridge 70 = .ok (.goto (-68), 3) := by decide +kernel
theorem dX12_layFridge_73 : decode cX12_layFridge 73 = .ok (.aload_n 0, 1) := by decide +kernel
theorem dX12_layFridge_74 : decode cX12_layFridge 74 = .ok (.getfield 88, 3) := by decide +kernel
theorem dX12_layFridge_77 : decode cX12_layFridge 77 = .ok (.iconst 0, 1) := by decide +kernel
theorem dX12_layFridge_78 : decode cX12_layFridge 78 = .ok (.iconst 0, 1) := by decide +kernel
theorem dX12_layFridge_79 : decode cX12_layFridge 79 = .ok (.iastore, 1) := by decide +kernel
theorem dX12_layFridge_80 : decode cX12_layFridge 80 = .ok (.aload_n 0, 1) := by decide +kernel
theorem dX12_layFridge_81 : decode cX12_layFridge 81 = .ok (.iconst 0, 1) := by decide +kernel
theorem dX12_layFridge_82 : decode cX12_layFridge 82 = .ok (.putfield 157, 3) := by decide +kernel
theorem dX12_layFridge_85 : decode cX12_layFridge 85 = .ok (.aload_n 0, 1) := by decide +kernel
theorem dX12_layFridge_86 : decode cX12_layFridge 86 = .ok (.iconst 0, 1) := by decide +kernel
theorem dX12_layFridge_87 : decode cX12_layFridge 87 = .ok (.putfield 160, 3) := by decide +kernel
theorem dX12_layFridge_90 : decode cX12_layFridge 90 = .ok (.return_, 1) := by decide +kernel
theorem dX12_lay_0 : decode cX12_lay 0 = .ok (.aload_n 0, 1) := by decide +kernel
theorem dX12_lay_1 : decode cX12_lay 1 = .ok (.invokevirtual 153, 3) := by decide +kernel
theorem dX12_lay_4 : decode cX12_lay 4 = .ok (.bipush (-4), 2) := by decide +kernel
theorem dX12_lay_6 : decode cX12_lay 6 = .ok (.if_icmp .ne 28, 3) := by decide +kernel
theorem dX12_lay_9 : decode cX12_lay 9 = .ok (.aload_n 0, 1) := by decide +kernel
theorem dX12_lay_10 : decode cX12_lay 10 = .ok (.getfield 13, 3) := by decide +kernel
theorem dX12_lay_13 : decode cX12_lay 13 = .ok (.iconst 1, 1) := by decide +kernel
theorem dX12_lay_14 : decode cX12_lay 14 = .ok (.iaload, 1) := by decide +kernel
theorem dX12_lay_15 : decode cX12_lay 15 = .ok (.ifCond .eq 19, 3) := by decide +kernel
theorem dX12_lay_18 : decode cX12_lay 18 = .ok (.aload_n 0, 1) := by decide +kernel
theorem dX12_lay_19 : decode cX12_lay 19 = .ok (.getfield 28, 3) := by decide +kernel
theorem dX12_lay_22 : decode cX12_lay 22 = .ok (.iconst 1, 1) := by decide +kernel
theorem dX12_lay_23 : decode cX12_lay 23 = .ok (.iaload, 1) := by decide +kernel
theorem dX12_lay_24 : decode cX12_lay 24 = .ok (.ifCond .eq 10, 3) := by decide +kernel
theorem dX12_lay_27 : decode cX12_lay 27 = .ok (.aload_n 0, 1) := by decide +kernel
theorem dX12_lay_28 : decode cX12_lay 28 = .ok (.invokevirtual 163, 3) := by decide +kernel
theorem dX12_lay_31 : decode cX12_lay 31 = .ok (.ifCond .ne 6, 3) := by decide +kernel
theorem dX12_lay_34 : decode cX12_lay 34 = .ok (.bipush (-2), 2) := by decide +kernel
theorem dX12_lay_36 : decode cX12_lay 36 = .ok (.ireturn, 1) := by decide +kernel
theorem dX12_lay_37 : decode cX12_lay 37 = .ok (.aload_n 0, 1) := by decide +kernel
theorem dX12_lay_38 : decode cX12_lay 38 = .ok (.getfield 13, 3) := by decide +kernel
theorem dX12_lay_41 : decode cX12_lay 41 = .ok (.iconst 0, 1) := by decide +kernel
theorem dX12_lay_42 : decode cX12_lay 42 = .ok (.aload_n 0, 1) := by decide +kernel
theorem dX12_lay_43 : decode cX12_lay 43 = .ok (.getfield 13, 3) := by decide +kernel
theorem dX12_lay_46 : decode cX12_lay 46 = .ok (.iconst 1, 1) := by decide +kernel
theorem dX12_lay_47 : decode cX12_lay 47 = .ok (.iaload, 1) := by decide +kernel
theorem dX12_lay_48 : decode cX12_lay 48 = .ok (.iastore, 1) := by decide +kernel
theorem dX12_lay_49 : decode cX12_lay 49 = .ok (.aload_n 0, 1) := by decide +kernel
theorem dX12_lay_50 : decode cX12_lay 50 = .ok (.getfield 25, 3) := by decide +kernel
theorem dX12_lay_53 : decode cX12_lay 53 = .ok (.iconst 0, 1) := by decide +kernel
theorem dX12_lay_54 : decode cX12_lay 54 = .ok (.aload_n 0, 1) := by decide +kernel
theorem dX12_lay_55 : decode cX12_lay 55 = .ok (.getfield 25, 3) := by decide +kernel
theorem dX12_lay_58 : decode cX12_lay 58 = .ok (.iconst 1, 1) := by decide +kernel
theorem dX12_lay_59 : decode cX12_lay 59 = .ok (.iaload, 1) := by decide +kernel
theorem dX12_lay_60 : decode cX12_lay 60 = .ok (.iastore, 1) := by decide +kernel
theorem dX12_lay_61 : decode cX12_lay 61 = .ok (.aload_n 0, 1) := by decide +kernel
theorem dX12_lay_62 : decode cX12_lay 62 = .ok (.getfield 28, 3) := by decide +kernel
theorem dX12_lay_65 : decode cX12_lay 65 = .ok (.iconst 0, 1) := by decide +kernel
theorem dX12_lay_66 : decode cX12_lay 66 = .ok (.aload_n 0, 1) := by decide +kernel
theorem dX12_lay_67 : decode cX12_lay 67 = .ok (.getfield 28, 3) := by decide +kernel
theorem dX12_lay_70 : decode cX12_lay 70 = .ok (.iconst 1, 1) := by decide +kernel
theorem dX12_lay_71 : decode cX12_lay 71 = .ok (.iaload, 1) := by decide +kernel
theorem dX12_lay_72 : decode cX12_lay 72 = .ok (.iastore, 1) := by decide +kernel
theorem dX12_lay_73 : decode cX12_lay 73 = .ok (.aload_n 0, 1) := by decide +kernel
theorem dX12_lay_74 : decode cX12_lay 74 = .ok (.getfield 49, 3) := by decide +kernel
theorem dX12_lay_77 : decode cX12_lay 77 = .ok (.iconst 0, 1) := by decide +kernel
theorem dX12_lay_78 : decode cX12_lay 78 = .ok (.aload_n 0, 1) := by decide +kernel
theorem dX12_lay_79 : decode cX12_lay 79 = .ok (.getfield 49, 3) := by decide +kernel
theorem dX12_lay_82 : decode cX12_lay 82 = .ok (.iconst 1, 1) := by decide +kernel
theorem dX12_lay_83 : decode cX12_lay 83 = .ok (.iaload, 1) := by decide +kernel
theorem dX12_lay_84 : decode cX12_lay 84 = .ok (.iastore, 1) := by decide +kernel
theorem dX12_lay_85 : decode cX12_lay 85 = .ok (.aload_n 0, 1) := by decide +kernel
theorem dX12_lay_86 : decode cX12_lay 86 = .ok (.getfield 55, 3) := by decide +kernel
theorem dX12_lay_89 : decode cX12_lay 89 = .ok (.iconst 0, 1) := by decide +kernel
theorem dX12_lay_90 : decode cX12_lay 90 = .ok (.aload_n 0, 1) := by decide +kernel
theorem dX12_lay_91 : decode cX12_lay 91 = .ok (.getfield 55, 3) := by decide +kernel
theorem dX12_lay_94 : decode cX12_lay 94 = .ok (.iconst 1, 1) := by decide +kernel
theorem dX12_lay_95 : decode cX12_lay 95 = .ok (.iaload, 1) := by decide +kernel
theorem dX12_lay_96 : decode cX12_lay 96 = .ok (.iastore, 1) := by decide +kernel
theorem dX12_lay_97 : decode cX12_lay 97 = .ok (.aload_n 0, 1) := by decide +kernel
theorem dX12_lay_98 : decode cX12_lay 98 = .ok (.getfield 61, 3) := by decide +kernel
theorem dX12_lay_101 : decode cX12_lay 101 = .ok (.iconst 0, 1) := by decide +kernel
theorem dX12_lay_102 : decode cX12_lay 102 = .ok (.aload_n 0, 1) := by decide +kernel
theorem dX12_lay_103 : decode cX12_lay 103 = .ok (.getfield 61, 3) := by decide +kernel
theorem dX12_lay_106 : decode cX12_lay 106 = .ok (.iconst 1, 1) := by decide +kernel
theorem dX12_lay_107 : decode cX12_lay 107 = .ok (.iaload, 1) := by decide +kernel
theorem dX12_lay_108 : decode cX12_lay 108 = .ok (.iastore, 1) := by decide +kernel
theorem dX12_lay_109 : decode cX12_lay 109 = .ok (.iconst 0, 1) := by decide +kernel
theorem dX12_lay_110 : decode cX12_lay 110 = .ok (.istore_n 1, 1) := by decide +kernel
theorem dX12_lay_111 : decode cX12_lay 111 = .ok (.iload_n 1, 1) := by decide +kernel
theorem dX12_lay_112 : decode cX12_lay 112 = .ok (.bipush 10, 2) := by decide +kernel
theorem dX12_lay_114 : decode cX12_lay 114 = .ok (.if_icmp .ge 99, 3) := by decide +kernel
theorem dX12_lay_117 : decode cX12_lay 117 = .ok (.aload_n 0, 1) := by decide +kernel
theorem dX12_lay_118 : decode cX12_lay 118 = .ok (.getfield 31, 3) := by decide +kernel
theorem dX12_lay_121 : decode cX12_lay 121 = .ok (.iload_n 1, 1) := by decide +kernel
theorem dX12_lay_122 : decode cX12_lay 122 = .ok (.aload_n 0, 1) := by decide +kernel
theorem dX12_lay_123 : decode cX12_lay 123 = .ok (.getfield 31, 3) := by decide +kernel
theorem dX12_lay_126 : decode cX12_lay 126 = .ok (.bipush 10, 2) := by decide +kernel
theorem dX12_lay_128 : decode cX12_lay 128 = .ok (.iload_n 1, 1) := by decide +kernel
theorem dX12_lay_129 : decode cX12_lay 129 = .ok (.iadd, 1) := by decide +kernel
theorem dX12_lay_130 : decode cX12_lay 130 = .ok (.iaload, 1) := by decide +kernel
theorem dX12_lay_131 : decode cX12_lay 131 = .ok (.iastore, 1) := by decide +kernel
theorem dX12_lay_132 : decode cX12_lay 132 = .ok (.aload_n 0, 1) := by decide +kernel
theorem dX12_lay_133 : decode cX12_lay 133 = .ok (.getfield 34, 3) := by decide +kernel
theorem dX12_lay_136 : decode cX12_lay 136 = .ok (.iload_n 1, 1) := by decide +kernel
theorem dX12_lay_137 : decode cX12_lay 137 = .ok (.aload_n 0, 1) := by decide +kernel
theorem dX12_lay_138 : decode cX12_lay 138 = .ok (.getfield 34, 3) := by decide +kernel
theorem dX12_lay_141 : decode cX12_lay 141 = .ok (.bipush 10, 2) := by decide +kernel
theorem dX12_lay_143 : decode cX12_lay 143 = .ok (.iload_n 1, 1) := by decide +kernel
theorem dX12_lay_144 : decode cX12_lay 144 = .ok (.iadd, 1) := by decide +kernel
theorem dX12_lay_145 : decode cX12_lay 145 = .ok (.iaload, 1) := by decide +kernel
theorem dX12_lay_146 : decode cX12_lay 146 = .ok (.iastore, 1) := by decide +kernel
theorem dX12_lay_147 : decode cX12_lay 147 = .ok (.aload_n 0, 1) := by decide +kernel
theorem dX12_lay_148 : decode cX12_lay 148 = .ok (.getfield 37, 3) := by decide +kernel
theorem dX12_lay_151 : decode cX12_lay 151 = .ok (.iload_n 1, 1) := by decide +kernel
theorem dX12_lay_152 : decode cX12_lay 152 = .ok (.aload_n 0, 1) := by decide +kernel
theorem dX12_lay_153 : decode cX12_lay 153 = .ok (.getfield 37, 3) := by decide +kernel
theorem dX12_lay_156 : decode cX12_lay 156 = .ok (.bipush 10, 2) := by decide +kernel
theorem dX12_lay_158 : decode cX12_lay 158 = .ok (.iload_n 1, 1) := by decide +kernel
theorem dX12_lay_159 : decode cX12_lay 159 = .ok (.iadd, 1) := by decide +kernel
theorem dX12_lay_160 : decode cX12_lay 160 = .ok (.iaload, 1) := by decide +kernel
theorem dX12_lay_161 : decode cX12_lay 161 = .ok (.iastore, 1) := by decide +kernel
theorem dX12_lay_162 : decode cX12_lay 162 = .ok (.aload_n 0, 1) := by decide +kernel
theorem dX12_lay_163 : decode cX12_lay 163 = .ok (.getfield 40, 3) := by decide +kernel
theorem dX12_lay_166 : decode cX12_lay 166 = .ok (.iload_n 1, 1) := by decide +kernel
theorem dX12_lay_167 : decode cX12_lay 167 = .ok (.aload_n 0, 1) := by decide +kernel
theorem dX12_lay_168 : decode cX12_lay 168 = .ok (.getfield 40, 3) := by decide +kernel
theorem dX12_lay_171 : decode cX12_lay 171 = .ok (.bipush 10, 2) := by decide +kernel
theorem dX12_lay_173 : decode cX12_lay 173 = .ok (.iload_n 1, 1) := by decide +kernel
theorem dX12_lay_174 : decode cX12_lay 174 = .ok (.iadd, 1) := by decide +kernel
theorem dX12_lay_175 : decode cX12_lay 175 = .ok (.iaload, 1) := by decide +kernel
theorem dX12_lay_176 : decode cX12_lay 176 = .ok (.iastore, 1) := by decide +kernel
theorem dX12_lay_177 : decode cX12_lay 177 = .ok (.aload_n 0, 1) := by decide +kernel
theorem dX12_lay_178 : decode cX12_lay 178 = .ok (.getfield 43, 3) := by decide +kernel
theorem dX12_lay_181 : decode cX12_lay 181 = .ok (.iload_n 1, 1) := by decide +kernel
theorem dX12_lay_182 : decode cX12_lay 182 = .ok (.aload_n 0, 1) := by decide +kernel
theorem dX12_lay_183 : decode cX12_lay 183 = .ok (.getfield 43, 3) := by decide +kernel
theorem dX12_lay_186 : decode cX12_lay 186 = .ok (.bipush 10, 2) := by decide +kernel
theorem dX12_lay_188 : decode cX12_lay 188 = .ok (.iload_n 1, 1) := by decide +kernel
theorem dX12_lay_189 : decode cX12_lay 189 = .ok (.iadd, 1) := by decide +kernel
theorem dX12_lay_190 : decode cX12_lay 190 = .ok (.iaload, 1) := by decide +kernel
theorem dX12_lay_191 : decode cX12_lay 191 = .ok (.iastore, 1) := by decide +kernel
theorem dX12_lay_192 : decode cX12_lay 192 = .ok (.aload_n 0, 1) := by decide +kernel
theorem dX12_lay_193 : decode cX12_lay 193 = .ok (.getfield 46, 3) := by decide +kernel
theorem dX12_lay_196 : decode cX12_lay 196 = .ok (.iload_n 1, 1) := by decide +kernel
theorem dX12_lay_197 : decode cX12_lay 197 = .ok (.aload_n 0, 1) := by decide +kernel
theorem dX12_lay_198 : decode cX12_lay 198 = .ok (.getfield 46, 3) := by decide +kernel
theorem dX12_lay_201 : decode cX12_lay 201 = .ok (.bipush 10, 2) := by decide +kernel
theorem dX12_lay_203 : decode cX12_lay 203 = .ok (.iload_n 1, 1) := by decide +kernel
theorem dX12_lay_204 : decode cX12_lay 204 = .ok (.iadd, 1) := by decide +kernel
theorem dX12_lay_205 : decode cX12_lay 205 = .ok (.iaload, 1) := by decide +kernel
theorem dX12_lay_206 : decode cX12_lay 206 = .ok (.iastore, 1) := by decide +kernel
theorem dX12_lay_207 : decode cX12_lay 207 = .ok (.iinc 1 1, 3) := by decide +kernel
theorem dX12_lay_210 : decode cX12_lay 210 = .ok (.goto (-99), 3) := by decide +kernel
theorem dX12_lay_213 : decode cX12_lay 213 = .ok (.iconst 0, 1) := by decide +kernel
theorem dX12_lay_214 : decode cX12_lay 214 = .ok (.istore_n 1, 1) := by decide +kernel
theorem dX12_lay_215 : decode cX12_lay 215 = .ok (.iload_n 1, 1) := by decide +kernel
theorem dX12_lay_216 : decode cX12_lay 216 = .ok (.bipush 6, 2) := by decide +kernel
theorem dX12_lay_218 : decode cX12_lay 218 = .ok (.if_icmp .ge 84, 3) := by decide +kernel
theorem dX12_lay_221 : decode cX12_lay 221 = .ok (.aload_n 0, 1) := by decide +kernel
theorem dX12_lay_222 : decode cX12_lay 222 = .ok (.getfield 16, 3) := by decide +kernel
theorem dX12_lay_225 : decode cX12_lay 225 = .ok (.iload_n 1, 1) := by decide +kernel
theorem dX12_lay_226 : decode cX12_lay 226 = .ok (.aload_n 0, 1) := by decide +kernel
theorem dX12_lay_227 : decode cX12_lay 227 = .ok (.getfield 16, 3) := by decide +kernel
theorem dX12_lay_230 : decode cX12_lay 230 = .ok (.bipush 6, 2) := by decide +kernel
theorem dX12_lay_232 : decode cX12_lay 232 = .ok (.iload_n 1, 1) := by decide +kernel
theorem dX12_lay_233 : decode cX12_lay 233 = .ok (.iadd, 1) := by decide +kernel
theorem dX12_lay_234 : decode cX12_lay 234 = .ok (.iaload, 1) := by decide +kernel
theorem dX12_lay_235 : decode cX12_lay 235 = .ok (.iastore, 1) := by decide +kernel
theorem dX12_lay_236 : decode cX12_lay 236 = .ok (.aload_n 0, 1) := by decide +kernel
theorem dX12_lay_237 : decode cX12_lay 237 = .ok (.getfield 19, 3) := by decide +kernel
theorem dX12_lay_240 : decode cX12_lay 240 = .ok (.iload_n 1, 1) := by decide +kernel
theorem dX12_lay_241 : decode cX12_lay 241 = .ok (.aload_n 0, 1) := by decide +kernel
theorem dX12_lay_242 : decode cX12_lay 242 = .ok (.getfield 19, 3) := by decide +kernel
theorem dX12_lay_245 : decode cX12_lay 245 = .ok (.bipush 6, 2) := by decide +kernel
theorem dX12_lay_247 : decode cX12_lay 247 = .ok (.iload_n 1, 1) := by decide +kernel
theorem dX12_lay_248 : decode cX12_lay 248 = .ok (.iadd, 1) := by decide +kernel
theorem dX12_lay_249 : decode cX12_lay 249 = .ok (.iaload, 1) := by decide +kernel
theorem dX12_lay_250 : decode cX12_lay 250 = .ok (.iastore, 1) := by decide +kernel
theorem dX12_lay_251 : decode cX12_lay 251 = .ok (.aload_n 0, 1) := by decide +kernel
theorem dX12_lay_252 : decode cX12_lay 252 = .ok (.getfield 22, 3) := by decide +kernel
theorem dX12_lay_255 : decode cX12_lay 255 = .ok (.iload_n 1, 1) := by decide +kernel
theorem dX12_lay_256 : decode cX12_lay 256 = .ok (.aload_n 0, 1) := by decide +kernel
theorem dX12_lay_257 : decode cX12_lay 257 = .ok (.getfield 22, 3) := by decide +kernel
theorem dX12_lay_260 : decode cX12_lay 260 = .ok (.bipush 6, 2) := by decide +kernel
theorem dX12_lay_262 : decode cX12_lay 262 = .ok (.iload_n 1, 1) := by decide +kernel
theorem dX12_lay_263 : decode cX12_lay 263 = .ok (.iadd, 1) := by decide +kernel
theorem dX12_lay_264 : decode cX12_lay 264 = .ok (.iaload, 1) := by decide +kernel
theorem dX12_lay_265 : decode cX12_lay 265 = .ok (.iastore, 1) := by decide +kernel
theorem dX12_lay_266 : decode cX12_lay 266 = .ok (.aload_n 0, 1) := by decide +kernel
theorem dX12_lay_267 : decode cX12_lay 267 = .ok (.getfield 64, 3) := by decide +kernel
theorem dX12_lay_270 : decode cX12_lay 270 = .ok (.iload_n 1, 1) := by decide +kernel
theorem dX12_lay_271 : decode cX12_lay 271 = .ok (.aload_n 0, 1) := by decide +kernel
theorem dX12_lay_272 : decode cX12_lay 272 = .ok (.getfield 64, 3) := by decide +kernel
theorem dX12_lay_275 : decode cX12_lay 275 = .ok (.bipush 6, 2) := by decide +kernel
theorem dX12_lay_277 : decode cX12_lay 277 = .ok (.iload_n 1, 1) := by decide +kernel
theorem dX12_lay_278 : decode cX12_lay 278 = .ok (.iadd, 1) := by decide +kernel
theorem dX12_lay_279 : decode cX12_lay 279 = .ok (.iaload, 1) := by decide +kernel
theorem dX12_lay_280 : decode cX12_lay 280 = .ok (.iastore, 1) := by decide +kernel
theorem dX12_lay_281 : decode cX12_lay 281 = .ok (.aload_n 0, 1) := by decide +kernel
theorem dX12_lay_282 : decode cX12_lay 282 = .ok (.getfield 67, 3) := by decide +kernel
theorem dX12_lay_285 : decode cX12_lay 285 = .ok (.iload_n 1, 1) := by decide +kernel
theorem dX12_lay_286 : decode cX12_lay 286 = .ok (.aload_n 0, 1) := by decide +kernel
theorem dX12_lay_287 : decode cX12_lay 287 = .ok (.getfield 67, 3) := by decide +kernel
theorem dX12_lay_290 : decode cX12_lay 290 = .ok (.bipush 6, 2) := by decide +kernel
theorem dX12_lay_292 : decode cX12_lay 292 = .ok (.iload_n 1, 1) := by decide +kernel
theorem dX12_lay_293 : decode cX12_lay 293 = .ok (.iadd, 1) := by decide +kernel
theorem dX12_lay_294 : decode cX12_lay 294 = .ok (.iaload, 1) := by decide +kernel
theorem dX12_lay_295 : decode cX12_lay 295 = .ok (.iastore, 1) := by decide +kernel
theorem dX12_lay_296 : decode cX12_lay 296 = .ok (.iinc 1 1, 3) := by decide +kernel
theorem dX12_lay_299 : decode cX12_lay 299 = .ok (.goto (-84), 3) := by decide +kernel
theorem dX12_lay_302 : decode cX12_lay 302 = .ok (.iconst 0, 1) := by decide +kernel
theorem dX12_lay_303 : decode cX12_lay 303 = .ok (.istore_n 1, 1) := by decide +kernel
theorem dX12_lay_304 : decode cX12_lay 304 = .ok (.iload_n 1, 1) := by decide +kernel
theorem dX12_lay_305 : decode cX12_lay 305 = .ok (.iconst 5, 1) := by decide +kernel
theorem dX12_lay_306 : decode cX12_lay 306 = .ok (.if_icmp .ge 23, 3) := by decide +kernel
theorem dX12_lay_309 : decode cX12_lay 309 = .ok (.aload_n 0, 1) := by decide +kernel
theorem dX12_lay_310 : decode cX12_lay 310 = .ok (.getfield 52, 3) := by decide +kernel
theorem dX12_lay_313 : decode cX12_lay 313 = .ok (.iload_n 1, 1) := by decide +kernel
theorem dX12_lay_314 : decode cX12_lay 314 = .ok (.aload_n 0, 1) := by decide +kernel
theorem dX12_lay_315 : decode cX12_lay 315 = .ok (.getfield 52, 3) := by decide +kernel
theorem dX12_lay_318 : decode cX12_lay 318 = .ok (.iconst 5, 1) := by decide +kernel
theorem dX12_lay_319 : decode cX12_lay 319 = .ok (.iload_n 1, 1) := by decide +kernel
theorem dX12_lay_320 : decode cX12_lay 320 = .ok (.iadd, 1) := by decide +kernel
theorem dX12_lay_321 : decode cX12_lay 321 = .ok (.iaload, 1) := by decide +kernel
theorem dX12_lay_322 : decode cX12_lay 322 = .ok (.iastore, 1) := by decide +kernel
theorem dX12_lay_323 : decode cX12_lay 323 = .ok (.iinc 1 1, 3) := by decide +kernel
theorem dX12_lay_326 : decode cX12_lay 326 = .ok (.goto (-22), 3) := by decide +kernel
theorem dX12_lay_329 : decode cX12_lay 329 = .ok (.iconst 0, 1) := by decide +kernel
theorem dX12_lay_330 : decode cX12_lay 330 = .ok (.istore_n 1, 1) := by decide +kernel
theorem dX12_lay_331 : decode cX12_lay 331 = .ok (.iload_n 1, 1) := by decide +kernel
theorem dX12_lay_332 : decode cX12_lay 332 = .ok (.iconst 4, 1) := by decide +kernel
theorem dX12_lay_333 : decode cX12_lay 333 = .ok (.if_icmp .ge 23, 3) := by decide +kernel
theorem dX12_lay_336 : decode cX12_lay 336 = .ok (.aload_n 0, 1) := by decide +kernel
theorem dX12_lay_337 : decode cX12_lay 337 = .ok (.getfield 58, 3) := by decide +kernel
theorem dX12_lay_340 : decode cX12_lay 340 = .ok (.iload_n 1, 1) := by decide +kernel
theorem dX12_lay_341 : decode cX12_lay 341 = .ok (.aload_n 0, 1) := by decide +kernel
theorem dX12_lay_342 : decode cX12_lay 342 = .ok (.getfield 58, 3) := by decide +kernel
theorem dX12_lay_345 : decode cX12_lay 345 = .ok (.iconst 4, 1) := by decide +kernel
theorem dX12_lay_346 : decode cX12_lay 346 = .ok (.iload_n 1, 1) := by decide +kernel
theorem dX12_lay_347 : decode cX12_lay 347 = .ok (.iadd, 1) := by decide +kernel
theorem dX12_lay_348 : decode cX12_lay 348 = .ok (.iaload, 1) := by decide +kernel
theorem dX12_lay_349 : decode cX12_lay 349 = .ok (.iastore, 1) := by decide +kernel
theorem dX12_lay_350 : decode cX12_lay 350 = .ok (.iinc 1 1, 3) := by decide +kernel
theorem dX12_lay_353 : decode cX12_lay 353 = .ok (.goto (-22), 3) := by decide +kernel
theorem dX12_lay_356 : decode cX12_lay 356 = .ok (.iconst 0, 1) := by decide +kernel
theorem dX12_lay_357 : decode cX12_lay 357 = .ok (.istore_n 1, 1) := by decide +kernel
theorem dX12_lay_358 : decode cX12_lay 358 = .ok (.iload_n 1, 1) := by decide +kernel
theorem dX12_lay_359 : decode cX12_lay 359 = .ok (.iconst 3, 1) := by decide +kernel
theorem dX12_lay_360 : decode cX12_lay 360 = .ok (.if_icmp .ge 23, 3) := by decide +kernel
theorem dX12_lay_363 : decode cX12_lay 363 = .ok (.aload_n 0, 1) := by decide +kernel
theorem dX12_lay_364 : decode cX12_lay 364 = .ok (.getfield 70, 3) := by decide +kernel
theorem dX12_lay_367 : decode cX12_lay 367 = .ok (.iload_n 1, 1) := by decide +kernel
theorem dX12_lay_368 : decode cX12_lay 368 = .ok (.aload_n 0, 1) := by decide +kernel
theorem dX12_lay_369 : decode cX12_lay 369 = .ok (.getfield 70, 3) := by decide +kernel
theorem dX12_lay_372 : decode cX12_lay 372 = .ok (.iconst 3, 1) := by decide +kernel
theorem dX12_lay_373 : decode cX12_lay 373 = .ok (.iload_n 1, 1) := by decide +kernel
theorem dX12_lay_374 : decode cX12_lay 374 = .ok (.iadd, 1) := by decide +kernel
theorem dX12_lay_375 : decode cX12_lay 375 = .ok (.iaload, 1) := by decide +kernel
theorem dX12_lay_376 : decode cX12_lay 376 = .ok (.iastore, 1) := by decide +kernel
theorem dX12_lay_377 : decode cX12_lay 377 = .ok (.iinc 1 1, 3) := by decide +kernel
theorem dX12_lay_380 : decode cX12_lay 380 = .ok (.goto (-22), 3) := by decide +kernel
theorem dX12_lay_383 : decode cX12_lay 383 = .ok (.aload_n 0, 1) := by decide +kernel
theorem dX12_lay_384 : decode cX12_lay 384 = .ok (.invokevirtual 101, 3) := by decide +kernel
theorem dX12_lay_387 : decode cX12_lay 387 = .ok (.aload_n 0, 1) := by decide +kernel
theorem dX12_lay_388 : decode cX12_lay 388 = .ok (.getfield 28, 3) := by decide +kernel
theorem dX12_lay_391 : decode cX12_lay 391 = .ok (.iconst 0, 1) := by decide +kernel
theorem dX12_lay_392 : decode cX12_lay 392 = .ok (.iaload, 1) := by decide +kernel
theorem dX12_lay_393 : decode cX12_lay 393 = .ok (.ireturn, 1) := by decide +kernel
theorem dX12_isFood_0 : decode cX12_isFood 0 = .ok (.iload_n 1, 1) := by decide +kernel
theorem dX12_isFood_1 : decode cX12_isFood 1 = .ok (.i2l, 1) := by decide +kernel
theorem dX12_isFood_2 : decode cX12_isFood 2 = .ok (.lconst 0, 1) := by decide +kernel
theorem dX12_isFood_3 : decode cX12_isFood 3 = .ok (.aload_n 0, 1) := by decide +kernel
theorem dX12_isFood_4 : decode cX12_isFood 4 = .ok (.getfield 28, 3) := by decide +kernel
theorem dX12_isFood_7 : decode cX12_isFood 7 = .ok (.iconst 0, 1) := by decide +kernel
theorem dX12_isFood_8 : decode cX12_isFood 8 = .ok (.iaload, 1) := by decide +kernel
theorem dX12_isFood_9 : decode cX12_isFood 9 = .ok (.iconst 1, 1) := by decide +kernel
theorem dX12_isFood_10 : decode cX12_isFood 10 = .ok (.isub, 1) := by decide +kernel
theorem dX12_isFood_11 : decode cX12_isFood 11 = .ok (.i2l, 1) := by decide +kernel
theorem dX12_isFood_12 : decode cX12_isFood 12 = .ok (.invokestatic 106, 3) := by decide +kernel
theorem dX12_isFood_15 : decode cX12_isFood 15 = .ok (.ireturn, 1) := by decide +kernel
theorem dX12_isCell_0 : decode cX12_isCell 0 = .ok (.iload_n 1, 1) := by decide +kernel
theorem dX12_isCell_1 : decode cX12_isCell 1 = .ok (.i2l, 1) := by decide +kernel
theorem dX12_isCell_2 : decode cX12_isCell 2 = .ok (.lconst 0, 1) := by decide +kernel
theorem dX12_isCell_3 : decode cX12_isCell 3 = .ok (.aload_n 0, 1) := by decide +kernel
theorem dX12_isCell_4 : decode cX12_isCell 4 = .ok (.getfield 13, 3) := by decide +kernel
theorem dX12_isCell_7 : decode cX12_isCell 7 = .ok (.iconst 0, 1) := by decide +kernel
theorem dX12_isCell_8 : decode cX12_isCell 8 = .ok (.iaload, 1) := by decide +kernel
theorem dX12_isCell_9 : decode cX12_isCell 9 = .ok (.iconst 1, 1) := by decide +kernel
theorem dX12_isCell_10 : decode cX12_isCell 10 = .ok (.isub, 1) := by decide +kernel
theorem dX12_isCell_11 : decode cX12_isCell 11 = .ok (.i2l, 1) := by decide +kernel
theorem dX12_isCell_12 : decode cX12_isCell 12 = .ok (.invokestatic 106, 3) := by decide +kernel
theorem dX12_isCell_15 : decode cX12_isCell 15 = .ok (.ireturn, 1) := by decide +kernel
theorem dX12_warmthOf_0 : decode cX12_warmthOf 0 = .ok (.aload_n 0, 1) := by decide +kernel
theorem dX12_warmthOf_1 : decode cX12_warmthOf 1 = .ok (.getfield 16, 3) := by decide +kernel
theorem dX12_warmthOf_4 : decode cX12_warmthOf 4 = .ok (.iload_n 1, 1) := by decide +kernel
theorem dX12_warmthOf_5 : decode cX12_warmthOf 5 = .ok (.iaload, 1) := by decide +kernel
theorem dX12_warmthOf_6 : decode cX12_warmthOf 6 = .ok (.aload_n 0, 1) := by decide +kernel
theorem dX12_warmthOf_7 : decode cX12_warmthOf 7 = .ok (.getfield 25, 3) := by decide +kernel
theorem dX12_warmthOf_10 : decode cX12_warmthOf 10 = .ok (.iconst 0, 1) := by decide +kernel
theorem dX12_warmthOf_11 : decode cX12_warmthOf 11 = .ok (.iaload, 1) := by decide +kernel
theorem dX12_warmthOf_12 : decode cX12_warmthOf 12 = .ok (.iload_n 2, 1) := by decide +kernel
theorem dX12_warmthOf_13 : decode cX12_warmthOf 13 = .ok (.bipush 24, 2) := by decide +kernel
theorem dX12_warmthOf_15 : decode cX12_warmthOf 15 = .ok (.irem, 1) := by decide +kernel
theorem dX12_warmthOf_16 : decode cX12_warmthOf 16 = .ok (.invokestatic 166, 3) := by decide +kernel
theorem dX12_warmthOf_19 : decode cX12_warmthOf 19 = .ok (.ifCond .eq 12, 3) := by decide +kernel
theorem dX12_warmthOf_22 : decode cX12_warmthOf 22 = .ok (.aload_n 0, 1) := by decide +kernel
theorem dX12_warmthOf_23 : decode cX12_warmthOf 23 = .ok (.getfield 19, 3) := by decide +kernel
theorem dX12_warmthOf_26 : decode cX12_warmthOf 26 = .ok (.iload_n 1, 1) := by decide +kernel
theorem dX12_warmthOf_27 : decode cX12_warmthOf 27 = .ok (.iaload, 1) := by decide +kernel
theorem dX12_warmthOf_28 : decode cX12_warmthOf 28 = .ok (.goto 4, 3) := by decide +kernel
theorem dX12_warmthOf_31 : decode cX12_warmthOf 31 = .ok (.iconst 0, 1) := by decide +kernel
theorem dX12_warmthOf_32 : decode cX12_warmthOf 32 = .ok (.iadd, 1) := by decide +kernel
theorem dX12_warmthOf_33 : decode cX12_warmthOf 33 = .ok (.ireturn, 1) := by decide +kernel
theorem dX12_limitOf_0 : decode cX12_limitOf 0 = .ok (.bipush 50, 2) := by decide +kernel
theorem dX12_limitOf_2 : decode cX12_limitOf 2 = .ok (.aload_n 0, 1) := by decide +kernel
theorem dX12_limitOf_3 : decode cX12_limitOf 3 = .ok (.getfield 40, 3) := by decide +kernel
theorem dX12_limitOf_6 : decode cX12_limitOf 6 = .ok (.iload_n 1, 1) := by decide +kernel
theorem dX12_limitOf_7 : decode cX12_limitOf 7 = .ok (.bipush 10, 2) := by decide +kernel
theorem dX12_limitOf_9 : decode cX12_limitOf 9 = .ok (.irem, 1) := by decide +kernel
theorem dX12_limitOf_10 : decode cX12_limitOf 10 = .ok (.iaload, 1) := by decide +kernel
theorem dX12_limitOf_11 : decode cX12_limitOf 11 = .ok (.aload_n 0, 1) := by decide +kernel
theorem dX12_limitOf_12 : decode cX12_limitOf 12 = .ok (.getfield 73, 3) := by decide +kernel
theorem dX12_limitOf_15 : decode cX12_limitOf 15 = .ok (.iload_n 1, 1) := by decide +kernel
theorem dX12_limitOf_16 : decode cX12_limitOf 16 = .ok (.iaload, 1) := by decide +kernel
theorem dX12_limitOf_17 : decode cX12_limitOf 17 = .ok (.iconst 2, 1) := by decide +kernel
theorem dX12_limitOf_18 : decode cX12_limitOf 18 = .ok (.if_icmp .ne 8, 3) := by decide +kernel
theorem dX12_limitOf_21 : decode cX12_limitOf 21 = .ok (.bipush 96, 2) := by decide +kernel
theorem dX12_limitOf_23 : decode cX12_limitOf 23 = .ok (.goto 4, 3) := by decide +kernel
theorem dX12_limitOf_26 : decode cX12_limitOf 26 = .ok (.iconst 0, 1) := by decide +kernel
theorem dX12_limitOf_27 : decode cX12_limitOf 27 = .ok (.iadd, 1) := by decide +kernel
theorem dX12_limitOf_28 : decode cX12_limitOf 28 = .ok (.imul, 1) := by decide +kernel
theorem dX12_limitOf_29 : decode cX12_limitOf 29 = .ok (.ireturn, 1) := by decide +kernel
theorem dX12_isOff_0 : decode cX12_isOff 0 = .ok (.aload_n 0, 1) := by decide +kernel
theorem dX12_isOff_1 : decode cX12_isOff 1 = .ok (.getfield 79, 3) := by decide +kernel
theorem dX12_isOff_4 : decode cX12_isOff 4 = .ok (.iload_n 1, 1) := by decide +kernel
theorem dX12_isOff_5 : decode cX12_isOff 5 = .ok (.iaload, 1) := by decide +kernel
theorem dX12_isOff_6 : decode cX12_isOff 6 = .ok (.aload_n 0, 1) := by decide +kernel
theorem dX12_isOff_7 : decode cX12_isOff 7 = .ok (.iload_n 1, 1) := by decide +kernel
theorem dX12_isOff_8 : decode cX12_isOff 8 = .ok (.invokevirtual 170, 3) := by decide +kernel
theorem dX12_isOff_11 : decode cX12_isOff 11 = .ok (.if_icmp .lt 7, 3) := by decide +kernel
theorem dX12_isOff_14 : decode cX12_isOff 14 = .ok (.iconst 1, 1) := by decide +kernel
theorem dX12_isOff_15 : decode cX12_isOff 15 = .ok (.goto 4, 3) := by decide +kernel
theorem dX12_isOff_18 : decode cX12_isOff 18 = .ok (.iconst 0, 1) := by decide +kernel
theorem dX12_isOff_19 : decode cX12_isOff 19 = .ok (.ireturn, 1) := by decide +kernel
theorem dX12_agesBy_0 : decode cX12_agesBy 0 = .ok (.iload_n 0, 1) := by decide +kernel
theorem dX12_agesBy_1 : decode cX12_agesBy 1 = .ok (.iconst 3, 1) := by decide +kernel
theorem dX12_agesBy_2 : decode cX12_agesBy 2 = .ok (.if_icmp .ne 7, 3) := by decide +kernel
theorem dX12_agesBy_5 : decode cX12_agesBy 5 = .ok (.iconst 1, 1) := by decide +kernel
theorem dX12_agesBy_6 : decode cX12_agesBy 6 = .ok (.goto 18, 3) := by decide +kernel
theorem dX12_agesBy_9 : decode cX12_agesBy 9 = .ok (.bipush 10, 2) := by decide +kernel
theorem dX12_agesBy_11 : decode cX12_agesBy 11 = .ok (.iload_n 1, 1) := by decide +kernel
theorem dX12_agesBy_12 : decode cX12_agesBy 12 = .ok (.iadd, 1) := by decide +kernel
theorem dX12_agesBy_13 : decode cX12_agesBy 13 = .ok (.iload_n 0, 1) := by decide +kernel
theorem dX12_agesBy_14 : decode cX12_agesBy 14 = .ok (.iconst 1, 1) := by decide +kernel
theorem dX12_agesBy_15 : decode cX12_agesBy 15 = .ok (.if_icmp .ne 7, 3) := by decide +kernel
theorem dX12_agesBy_18 : decode cX12_agesBy 18 = .ok (.iconst 2, 1) := by decide +kernel
theorem dX12_agesBy_19 : decode cX12_agesBy 19 = .ok (.goto 4, 3) := by decide +kernel
theorem dX12_agesBy_22 : decode cX12_agesBy 22 = .ok (.iconst 1, 1) := by decide +kernel
theorem dX12_agesBy_23 : decode cX12_agesBy 23 = .ok (.imul, 1) := by decide +kernel
theorem dX12_agesBy_24 : decode cX12_agesBy 24 = .ok (.ireturn, 1) := by decide +kernel
theorem dX12_copy_0 : decode cX12_copy 0 = .ok (.iconst 0, 1) := by decide +kernel
theorem dX12_copy_1 : decode cX12_copy 1 = .ok (.istore_n 3, 1) := by decide +kernel
theorem dX12_copy_2 : decode cX12_copy 2 = .ok (.iload_n 3, 1) := by decide +kernel
theorem dX12_copy_3 : decode cX12_copy 3 = .ok (.bipush 10, 2) := by decide +kernel
theorem dX12_copy_5 : decode cX12_copy 5 = .ok (.if_icmp .ge 119, 3) := by decide +kernel
theorem dX12_copy_8 : decode cX12_copy 8 = .ok (.aload_n 0, 1) := by decide +kernel
theorem dX12_copy_9 : decode cX12_copy 9 = .ok (.getfield 73, 3) := by decide +kernel
theorem dX12_copy_12 : decode cX12_copy 12 = .ok (.bipush 10, 2) := by decide +kernel
theorem dX12_copy_14 : decode cX12_copy 14 = .ok (.iload_n 2, 1) := by decide +kernel
theorem dX12_copy_15 : decode cX12_copy 15 = .ok (.imul, 1) := by decide +kernel
theorem dX12_copy_16 : decode cX12_copy 16 = .ok (.iload_n 3, 1) := by decide +kernel
theorem dX12_copy_17 : decode cX12_copy 17 = .ok (.iadd, 1) := by decide +kernel
theorem dX12_copy_18 : decode cX12_copy 18 = .ok (.aload_n 0, 1) := by decide +kernel
theorem dX12_copy_19 : decode cX12_copy 19 = .ok (.getfield 73, 3) := by decide +kernel
theorem dX12_copy_22 : decode cX12_copy 22 = .ok (.bipush 10, 2) := by decide +kernel
theorem dX12_copy_24 : decode cX12_copy 24 = .ok (.iload_n 1, 1) := by decide +kernel
theorem dX12_copy_25 : decode cX12_copy 25 = .ok (.imul, 1) := by decide +kernel
theorem dX12_copy_26 : decode cX12_copy 26 = .ok (.iload_n 3, 1) := by decide +kernel
theorem dX12_copy_27 : decode cX12_copy 27 = .ok (.iadd, 1) := by decide +kernel
theorem dX12_copy_28 : decode cX12_copy 28 = .ok (.iaload, 1) := by decide +kernel
theorem dX12_copy_29 : decode cX12_copy 29 = .ok (.iastore, 1) := by decide +kernel
theorem dX12_copy_30 : decode cX12_copy 30 = .ok (.aload_n 0, 1) := by decide +kernel
theorem dX12_copy_31 : decode cX12_copy 31 = .ok (.getfield 76, 3) := by decide +kernel
theorem dX12_copy_34 : decode cX12_copy 34 = .ok (.bipush 10, 2) := by decide +kernel
theorem dX12_copy_36 : decode cX12_copy 36 = .ok (.iload_n 2, 1) := by decide +kernel
theorem dX12_copy_37 : decode cX12_copy 37 = .ok (.imul, 1) := by decide +kernel
theorem dX12_copy_38 : decode cX12_copy 38 = .ok (.iload_n 3, 1) := by decide +kernel
theorem dX12_copy_39 : decode cX12_copy 39 = .ok (.iadd, 1) := by decide +kernel
theorem dX12_copy_40 : decode cX12_copy 40 = .ok (.aload_n 0, 1) := by decide +kernel
theorem dX12_copy_41 : decode cX12_copy 41 = .ok (.getfield 76, 3) := by decide +kernel
theorem dX12_copy_44 : decode cX12_copy 44 = .ok (.bipush 10, 2) := by decide +kernel
theorem dX12_copy_46 : decode cX12_copy 46 = .ok (.iload_n 1, 1) := by decide +kernel
theorem dX12_copy_47 : decode cX12_copy 47 = .ok (.imul, 1) := by decide +kernel
theorem dX12_copy_48 : decode cX12_copy 48 = .ok (.iload_n 3, 1) := by decide +kernel
theorem dX12_copy_49 : decode cX12_copy 49 = .ok (.iadd, 1) := by decide +kernel
theorem dX12_copy_50 : decode cX12_copy 50 = .ok (.iaload, 1) := by decide +kernel
theorem dX12_copy_51 : decode cX12_copy 51 = .ok (.iastore, 1) := by decide +kernel
theorem dX12_copy_52 : decode cX12_copy 52 = .ok (.aload_n 0, 1) := by decide +kernel
theorem dX12_copy_53 : decode cX12_copy 53 = .ok (.getfield 79, 3) := by decide +kernel
theorem dX12_copy_56 : decode cX12_copy 56 = .ok (.bipush 10, 2) := by decide +kernel
theorem dX12_copy_58 : decode cX12_copy 58 = .ok (.iload_n 2, 1) := by decide +kernel
theorem dX12_copy_59 : decode cX12_copy 59 = .ok (.imul, 1) := by decide +kernel
theorem dX12_copy_60 : decode cX12_copy 60 = .ok (.iload_n 3, 1) := by decide +kernel
theorem dX12_copy_61 : decode cX12_copy 61 = .ok (.iadd, 1) := by decide +kernel
theorem dX12_copy_62 : decode cX12_copy 62 = .ok (.aload_n 0, 1) := by decide +kernel
theorem dX12_copy_63 : decode cX12_copy 63 = .ok (.getfield 79, 3) := by decide +kernel
theorem dX12_copy_66 : decode cX12_copy 66 = .ok (.bipush 10, 2) := by decide +kernel
theorem dX12_copy_68 : decode cX12_copy 68 = .ok (.iload_n 1, 1) := by decide +kernel
theorem dX12_copy_69 : decode cX12_copy 69 = .ok (.imul, 1) := by decide +kernel
theorem dX12_copy_70 : decode cX12_copy 70 = .ok (.iload_n 3, 1) := by decide +kernel
theorem dX12_copy_71 : decode cX12_copy 71 = .ok (.iadd, 1) := by decide +kernel
theorem dX12_copy_72 : decode cX12_copy 72 = .ok (.iaload, 1) := by decide +kernel
theorem dX12_copy_73 : decode cX12_copy 73 = .ok (.iastore, 1) := by decide +kernel
theorem dX12_copy_74 : decode cX12_copy 74 = .ok (.aload_n 0, 1) := by decide +kernel
theorem dX12_copy_75 : decode cX12_copy 75 = .ok (.getfield 82, 3) := by decide +kernel
theorem dX12_copy_78 : decode cX12_copy 78 = .ok (.bipush 10, 2) := by decide +kernel
theorem dX12_copy_80 : decode cX12_copy 80 = .ok (.iload_n 2, 1) := by decide +kernel
theorem dX12_copy_81 : decode cX12_copy 81 = .ok (.imul, 1) := by decide +kernel
theorem dX12_copy_82 : decode cX12_copy 82 = .ok (.iload_n 3, 1) := by decide +kernel
theorem dX12_copy_83 : decode cX12_copy 83 = .ok (.iadd, 1) := by decide +kernel
theorem dX12_copy_84 : decode cX12_copy 84 = .ok (.aload_n 0, 1) := by decide +kernel
theorem dX12_copy_85 : decode cX12_copy 85 = .ok (.getfield 82, 3) := by decide +kernel
theorem dX12_copy_88 : decode cX12_copy 88 = .ok (.bipush 10, 2) := by decide +kernel
theorem dX12_copy_90 : decode cX12_copy 90 = .ok (.iload_n 1, 1) := by decide +kernel
theorem dX12_copy_91 : decode cX12_copy 91 = .ok (.imul, 1) := by decide +kernel
theorem dX12_copy_92 : decode cX12_copy 92 = .ok (.iload_n 3, 1) := by decide +kernel
theorem dX12_copy_93 : decode cX12_copy 93 = .ok (.iadd, 1) := by decide +kernel
theorem dX12_copy_94 : decode cX12_copy 94 = .ok (.iaload, 1) := by decide +kernel
theorem dX12_copy_95 : decode cX12_copy 95 = .ok (.iastore, 1) := by decide +kernel
theorem dX12_copy_96 : decode cX12_copy 96 = .ok (.aload_n 0, 1) := by decide +kernel
theorem dX12_copy_97 : decode cX12_copy 97 = .ok (.getfield 85, 3) := by decide +kernel
theorem dX12_copy_100 : decode cX12_copy 100 = .ok (.bipush 10, 2) := by decide +kernel
theorem dX12_copy_102 : decode cX12_copy 102 = .ok (.iload_n 2, 1) := by decide +kernel
theorem dX12_copy_103 : decode cX12_copy 103 = .ok (.imul, 1) := by decide +kernel
theorem dX12_copy_104 : decode cX12_copy 104 = .ok (.iload_n 3, 1) := by decide +kernel
theorem dX12_copy_105 : decode cX12_copy 105 = .ok (.iadd, 1) := by decide +kernel
theorem dX12_copy_106 : decode cX12_copy 106 = .ok (.aload_n 0, 1) := by decide +kernel
theorem dX12_copy_107 : decode cX12_copy 107 = .ok (.getfield 85, 3) := by decide +kernel
theorem dX12_copy_110 : decode cX12_copy 110 = .ok (.bipush 10, 2) := by decide +kernel
theorem dX12_copy_112 : decode cX12_copy 112 = .ok (.iload_n 1, 1) := by decide +kernel
theorem dX12_copy_113 : decode cX12_copy 113 = .ok (.imul, 1) := by decide +kernel
theorem dX12_copy_114 : decode cX12_copy 114 = .ok (.iload_n 3, 1) := by decide +kernel
theorem dX12_copy_115 : decode cX12_copy 115 = .ok (.iadd, 1) := by decide +kernel
theorem dX12_copy_116 : decode cX12_copy 116 = .ok (.iaload, 1) := by decide +kernel
theorem dX12_copy_117 : decode cX12_copy 117 = .ok (.iastore, 1) := by decide +kernel
theorem dX12_copy_118 : decode cX12_copy 118 = .ok (.iinc 3 1, 3) := by decide +kernel
theorem dX12_copy_121 : decode cX12_copy 121 = .ok (.goto (-119), 3) := by decide +kernel
theorem dX12_copy_124 : decode cX12_copy 124 = .ok (.aload_n 0, 1) := by decide +kernel
theorem dX12_copy_125 : decode cX12_copy 125 = .ok (.getfield 88, 3) := by decide +kernel
theorem dX12_copy_128 : decode cX12_copy 128 = .ok (.iload_n 2, 1) := by decide +kernel
theorem dX12_copy_129 : decode cX12_copy 129 = .ok (.aload_n 0, 1) := by decide +kernel
theorem dX12_copy_130 : decode cX12_copy 130 = .ok (.getfield 88, 3) := by decide +kernel
theorem dX12_copy_133 : decode cX12_copy 133 = .ok (.iload_n 1, 1) := by decide +kernel
theorem dX12_copy_134 : decode cX12_copy 134 = .ok (.iaload, 1) := by decide +kernel
theorem dX12_copy_135 : decode cX12_copy 135 = .ok (.iastore, 1) := by decide +kernel
theorem dX12_copy_136 : decode cX12_copy 136 = .ok (.return_, 1) := by decide +kernel
theorem dX12_goHour_0 : decode cX12_goHour 0 = .ok (.iconst 0, 1) := by decide +kernel
theorem dX12_goHour_1 : decode cX12_goHour 1 = .ok (.istore_n 2, 1) := by decide +kernel
theorem dX12_goHour_2 : decode cX12_goHour 2 = .ok (.iload_n 2, 1) := by decide +kernel
theorem dX12_goHour_3 : decode cX12_goHour 3 = .ok (.aload_n 0, 1) := by decide +kernel
theorem dX12_goHour_4 : decode cX12_goHour 4 = .ok (.getfield 28, 3) := by decide +kernel
theorem dX12_goHour_7 : decode cX12_goHour 7 = .ok (.iconst 0, 1) := by decide +kernel
theorem dX12_goHour_8 : decode cX12_goHour 8 = .ok (.iaload, 1) := by decide +kernel
theorem dX12_goHour_9 : decode cX12_goHour 9 = .ok (.if_icmp .ge 63, 3) := by decide +kernel
theorem dX12_goHour_12 : decode cX12_goHour 12 = .ok (.bipush 10, 2) := by decide +kernel
theorem dX12_goHour_14 : decode cX12_goHour 14 = .ok (.iload_n 1, 1) := by decide +kernel
theorem dX12_goHour_15 : decode cX12_goHour 15 = .ok (.imul, 1) := by decide +kernel
theorem dX12_goHour_16 : decode cX12_goHour 16 = .ok (.iload_n 2, 1) := by decide +kernel
theorem dX12_goHour_17 : decode cX12_goHour 17 = .ok (.iadd, 1) := by decide +kernel
theorem dX12_goHour_18 : decode cX12_goHour 18 = .ok (.istore_n 3, 1) := by decide +kernel
theorem dX12_goHour_19 : decode cX12_goHour 19 = .ok (.aload_n 0, 1) := by decide +kernel
theorem dX12_goHour_20 : decode cX12_goHour 20 = .ok (.getfield 79, 3) := by decide +kernel
theorem dX12_goHour_23 : decode cX12_goHour 23 = .ok (.iload_n 3, 1) := by decide +kernel
theorem dX12_goHour_24 : decode cX12_goHour 24 = .ok (.dup2, 1) := by decide +kernel
theorem dX12_goHour_25 : decode cX12_goHour 25 = .ok (.iaload, 1) := by decide +kernel
theorem dX12_goHour_26 : decode cX12_goHour 26 = .ok (.aload_n 0, 1) := by decide +kernel
theorem dX12_goHour_27 : decode cX12_goHour 27 = .ok (.getfield 82, 3) := by decide +kernel
theorem dX12_goHour_30 : decode cX12_goHour 30 = .ok (.iload_n 3, 1) := by decide +kernel
theorem dX12_goHour_31 : decode cX12_goHour 31 = .ok (.iaload, 1) := by decide +kernel
theorem dX12_goHour_32 : decode cX12_goHour 32 = .ok (.ifCond .ne 31, 3) := by decide +kernel
theorem dX12_goHour_35 : decode cX12_goHour 35 = .ok (.aload_n 0, 1) := by decide +kernel
theorem dX12_goHour_36 : decode cX12_goHour 36 = .ok (.getfield 73, 3) := by decide +kernel
theorem dX12_goHour_39 : decode cX12_goHour 39 = .ok (.iload_n 3, 1) := by decide +kernel
theorem dX12_goHour_40 : decode cX12_goHour 40 = .ok (.iaload, 1) := by decide +kernel
theorem dX12_goHour_41 : decode cX12_goHour 41 = .ok (.aload_n 0, 1) := by decide +kernel
theorem dX12_goHour_42 : decode cX12_goHour 42 = .ok (.aload_n 0, 1) := by decide +kernel
theorem dX12_goHour_43 : decode cX12_goHour 43 = .ok (.getfield 76, 3) := by decide +kernel
theorem dX12_goHour_46 : decode cX12_goHour 46 = .ok (.iload_n 3, 1) := by decide +kernel
theorem dX12_goHour_47 : decode cX12_goHour 47 = .ok (.iaload, 1) := by decide +kernel
theorem dX12_goHour_48 : decode cX12_goHour 48 = .ok (.aload_n 0, 1) := by decide +kernel
theorem dX12_goHour_49 : decode cX12_goHour 49 = .ok (.getfield 88, 3) := by decide +kernel
theorem dX12_goHour_52 : decode cX12_goHour 52 = .ok (.iload_n 1, 1) := by decide +kernel
theorem dX12_goHour_53 : decode cX12_goHour 53 = .ok (.iaload, 1) := by decide +kernel
theorem dX12_goHour_54 : decode cX12_goHour 54 = .ok (.invokevirtual 173, 3) := by decide +kernel
theorem dX12_goHour_57 : decode cX12_goHour 57 = .ok (.invokestatic 177, 3) := by decide +kernel
theorem dX12_goHour_60 : decode cX12_goHour 60 = .ok (.goto 4, 3) := by decide +kernel
theorem dX12_goHour_63 : decode cX12_goHour 63 = .ok (.iconst 0, 1) := by decide +kernel
theorem dX12_goHour_64 : decode cX12_goHour 64 = .ok (.iadd, 1) := by decide +kernel
theorem dX12_goHour_65 : decode cX12_goHour 65 = .ok (.iastore, 1) := by decide +kernel
theorem dX12_goHour_66 : decode cX12_goHour 66 = .ok (.iinc 2 1, 3) := by decide +kernel
