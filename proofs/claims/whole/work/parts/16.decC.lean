theorem dX12_isIn_0 : decode cX12_isIn 0 = .ok (.lload_n 0, 1) := by decide +kernel
theorem dX12_isIn_1 : decode cX12_isIn 1 = .ok (.lload_n 2, 1) := by decide +kernel
theorem dX12_isIn_2 : decode cX12_isIn 2 = .ok (.lcmp, 1) := by decide +kernel
theorem dX12_isIn_3 : decode cX12_isIn 3 = .ok (.ifCond .lt 14, 3) := by decide +kernel
theorem dX12_isIn_6 : decode cX12_isIn 6 = .ok (.lload_n 0, 1) := by decide +kernel
theorem dX12_isIn_7 : decode cX12_isIn 7 = .ok (.lload 4, 2) := by decide +kernel
theorem dX12_isIn_9 : decode cX12_isIn 9 = .ok (.lcmp, 1) := by decide +kernel
theorem dX12_isIn_10 : decode cX12_isIn 10 = .ok (.ifCond .gt 7, 3) := by decide +kernel
theorem dX12_isIn_13 : decode cX12_isIn 13 = .ok (.iconst 1, 1) := by decide +kernel
theorem dX12_isIn_14 : decode cX12_isIn 14 = .ok (.goto 4, 3) := by decide +kernel
theorem dX12_isIn_17 : decode cX12_isIn 17 = .ok (.iconst 0, 1) := by decide +kernel
theorem dX12_isIn_18 : decode cX12_isIn 18 = .ok (.ireturn, 1) := by decide +kernel
theorem dX12_isDay_0 : decode cX12_isDay 0 = .ok (.iload_n 0, 1) := by decide +kernel
theorem dX12_isDay_1 : decode cX12_isDay 1 = .ok (.i2l, 1) := by decide +kernel
theorem dX12_isDay_2 : decode cX12_isDay 2 = .ok (.lconst 0, 1) := by decide +kernel
theorem dX12_isDay_3 : decode cX12_isDay 3 = .ok (.ldc2_w 3, 3) := by decide +kernel
theorem dX12_isDay_6 : decode cX12_isDay 6 = .ok (.invokestatic 5, 3) := by decide +kernel
theorem dX12_isDay_9 : decode cX12_isDay 9 = .ok (.ireturn, 1) := by decide +kernel
theorem dX12_isPlot_0 : decode cX12_isPlot 0 = .ok (.iload_n 0, 1) := by decide +kernel
theorem dX12_isPlot_1 : decode cX12_isPlot 1 = .ok (.i2l, 1) := by decide +kernel
theorem dX12_isPlot_2 : decode cX12_isPlot 2 = .ok (.lconst 0, 1) := by decide +kernel
theorem dX12_isPlot_3 : decode cX12_isPlot 3 = .ok (.ldc2_w 9, 3) := by decide +kernel
theorem dX12_isPlot_6 : decode cX12_isPlot 6 = .ok (.invokestatic 5, 3) := by decide +kernel
theorem dX12_isPlot_9 : decode cX12_isPlot 9 = .ok (.ireturn, 1) := by decide +kernel
theorem dX12_isOwner_0 : decode cX12_isOwner 0 = .ok (.iload_n 0, 1) := by decide +kernel
theorem dX12_isOwner_1 : decode cX12_isOwner 1 = .ok (.i2l, 1) := by decide +kernel
theorem dX12_isOwner_2 : decode cX12_isOwner 2 = .ok (.lconst 0, 1) := by decide +kernel
theorem dX12_isOwner_3 : decode cX12_isOwner 3 = .ok (.ldc2_w 11, 3) := by decide +kernel
theorem dX12_isOwner_6 : decode cX12_isOwner 6 = .ok (.invokestatic 5, 3) := by decide +kernel
theorem dX12_isOwner_9 : decode cX12_isOwner 9 = .ok (.ireturn, 1) := by decide +kernel
theorem dX12_pass_0 : decode cX12_pass 0 = .ok (.iload_n 1, 1) := by decide +kernel
theorem dX12_pass_1 : decode cX12_pass 1 = .ok (.i2l, 1) := by decide +kernel
theorem dX12_pass_2 : decode cX12_pass 2 = .ok (.lconst 1, 1) := by decide +kernel
theorem dX12_pass_3 : decode cX12_pass 3 = .ok (.ldc2_w 13, 3) := by decide +kernel
theorem dX12_pass_6 : decode cX12_pass 6 = .ok (.invokestatic 5, 3) := by decide +kernel
theorem dX12_pass_9 : decode cX12_pass 9 = .ok (.ifCond .ne 6, 3) := by decide +kernel
theorem dX12_pass_12 : decode cX12_pass 12 = .ok (.bipush (-2), 2) := by decide +kernel
theorem dX12_pass_14 : decode cX12_pass 14 = .ok (.ireturn, 1) := by decide +kernel
theorem dX12_pass_15 : decode cX12_pass 15 = .ok (.aload_n 0, 1) := by decide +kernel
theorem dX12_pass_16 : decode cX12_pass 16 = .ok (.getfield 15, 3) := by decide +kernel
theorem dX12_pass_19 : decode cX12_pass 19 = .ok (.iload_n 1, 1) := by decide +kernel
theorem dX12_pass_20 : decode cX12_pass 20 = .ok (.iadd, 1) := by decide +kernel
theorem dX12_pass_21 : decode cX12_pass 21 = .ok (.sipush 9999, 3) := by decide +kernel
theorem dX12_pass_24 : decode cX12_pass 24 = .ok (.if_icmp .le 6, 3) := by decide +kernel
theorem dX12_pass_27 : decode cX12_pass 27 = .ok (.bipush (-4), 2) := by decide +kernel
theorem dX12_pass_29 : decode cX12_pass 29 = .ok (.ireturn, 1) := by decide +kernel
theorem dX12_pass_30 : decode cX12_pass 30 = .ok (.aload_n 0, 1) := by decide +kernel
theorem dX12_pass_31 : decode cX12_pass 31 = .ok (.dup, 1) := by decide +kernel
theorem dX12_pass_32 : decode cX12_pass 32 = .ok (.getfield 15, 3) := by decide +kernel
theorem dX12_pass_35 : decode cX12_pass 35 = .ok (.iload_n 1, 1) := by decide +kernel
theorem dX12_pass_36 : decode cX12_pass 36 = .ok (.iadd, 1) := by decide +kernel
theorem dX12_pass_37 : decode cX12_pass 37 = .ok (.putfield 15, 3) := by decide +kernel
theorem dX12_pass_40 : decode cX12_pass 40 = .ok (.aload_n 0, 1) := by decide +kernel
theorem dX12_pass_41 : decode cX12_pass 41 = .ok (.getfield 15, 3) := by decide +kernel
theorem dX12_pass_44 : decode cX12_pass 44 = .ok (.ireturn, 1) := by decide +kernel
theorem dX12_sell_0 : decode cX12_sell 0 = .ok (.iload_n 1, 1) := by decide +kernel
theorem dX12_sell_1 : decode cX12_sell 1 = .ok (.invokestatic 19, 3) := by decide +kernel
theorem dX12_sell_4 : decode cX12_sell 4 = .ok (.ifCond .eq 26, 3) := by decide +kernel
theorem dX12_sell_7 : decode cX12_sell 7 = .ok (.iload_n 2, 1) := by decide +kernel
theorem dX12_sell_8 : decode cX12_sell 8 = .ok (.invokestatic 23, 3) := by decide +kernel
theorem dX12_sell_11 : decode cX12_sell 11 = .ok (.ifCond .eq 19, 3) := by decide +kernel
theorem dX12_sell_14 : decode cX12_sell 14 = .ok (.iload_n 3, 1) := by decide +kernel
theorem dX12_sell_15 : decode cX12_sell 15 = .ok (.i2l, 1) := by decide +kernel
theorem dX12_sell_16 : decode cX12_sell 16 = .ok (.aload_n 0, 1) := by decide +kernel
theorem dX12_sell_17 : decode cX12_sell 17 = .ok (.getfield 15, 3) := by decide +kernel
theorem dX12_sell_20 : decode cX12_sell 20 = .ok (.i2l, 1) := by decide +kernel
theorem dX12_sell_21 : decode cX12_sell 21 = .ok (.ldc2_w 3, 3) := by decide +kernel
theorem dX12_sell_24 : decode cX12_sell 24 = .ok (.invokestatic 5, 3) := by decide +kernel
theorem dX12_sell_27 : decode cX12_sell 27 = .ok (.ifCond .ne 6, 3) := by decide +kernel
theorem dX12_sell_30 : decode cX12_sell 30 = .ok (.bipush (-2), 2) := by decide +kernel
theorem dX12_sell_32 : decode cX12_sell 32 = .ok (.ireturn, 1) := by decide +kernel
theorem dX12_sell_33 : decode cX12_sell 33 = .ok (.aload_n 0, 1) := by decide +kernel
theorem dX12_sell_34 : decode cX12_sell 34 = .ok (.getfield 26, 3) := by decide +kernel
theorem dX12_sell_37 : decode cX12_sell 37 = .ok (.bipush 40, 2) := by decide +kernel
theorem dX12_sell_39 : decode cX12_sell 39 = .ok (.if_icmp .ne 6, 3) := by decide +kernel
theorem dX12_sell_42 : decode cX12_sell 42 = .ok (.bipush (-4), 2) := by decide +kernel
theorem dX12_sell_44 : decode cX12_sell 44 = .ok (.ireturn, 1) := by decide +kernel
theorem dX12_sell_45 : decode cX12_sell 45 = .ok (.aload_n 0, 1) := by decide +kernel
theorem dX12_sell_46 : decode cX12_sell 46 = .ok (.getfield 29, 3) := by decide +kernel
theorem dX12_sell_49 : decode cX12_sell 49 = .ok (.aload_n 0, 1) := by decide +kernel
theorem dX12_sell_50 : decode cX12_sell 50 = .ok (.getfield 26, 3) := by decide +kernel
theorem dX12_sell_53 : decode cX12_sell 53 = .ok (.iload_n 1, 1) := by decide +kernel
theorem dX12_sell_54 : decode cX12_sell 54 = .ok (.iastore, 1) := by decide +kernel
theorem dX12_sell_55 : decode cX12_sell 55 = .ok (.aload_n 0, 1) := by decide +kernel
theorem dX12_sell_56 : decode cX12_sell 56 = .ok (.getfield 33, 3) := by decide +kernel
theorem dX12_sell_59 : decode cX12_sell 59 = .ok (.aload_n 0, 1) := by decide +kernel
theorem dX12_sell_60 : decode cX12_sell 60 = .ok (.getfield 26, 3) := by decide +kernel
theorem dX12_sell_63 : decode cX12_sell 63 = .ok (.iload_n 2, 1) := by decide +kernel
theorem dX12_sell_64 : decode cX12_sell 64 = .ok (.iastore, 1) := by decide +kernel
theorem dX12_sell_65 : decode cX12_sell 65 = .ok (.aload_n 0, 1) := by decide +kernel
theorem dX12_sell_66 : decode cX12_sell 66 = .ok (.getfield 36, 3) := by decide +kernel
theorem dX12_sell_69 : decode cX12_sell 69 = .ok (.aload_n 0, 1) := by decide +kernel
theorem dX12_sell_70 : decode cX12_sell 70 = .ok (.getfield 26, 3) := by decide +kernel
theorem dX12_sell_73 : decode cX12_sell 73 = .ok (.iload_n 3, 1) := by decide +kernel
theorem dX12_sell_74 : decode cX12_sell 74 = .ok (.iastore, 1) := by decide +kernel
theorem dX12_sell_75 : decode cX12_sell 75 = .ok (.aload_n 0, 1) := by decide +kernel
theorem dX12_sell_76 : decode cX12_sell 76 = .ok (.dup, 1) := by decide +kernel
theorem dX12_sell_77 : decode cX12_sell 77 = .ok (.getfield 26, 3) := by decide +kernel
theorem dX12_sell_80 : decode cX12_sell 80 = .ok (.iconst 1, 1) := by decide +kernel
theorem dX12_sell_81 : decode cX12_sell 81 = .ok (.iadd, 1) := by decide +kernel
theorem dX12_sell_82 : decode cX12_sell 82 = .ok (.putfield 26, 3) := by decide +kernel
theorem dX12_sell_85 : decode cX12_sell 85 = .ok (.aload_n 0, 1) := by decide +kernel
theorem dX12_sell_86 : decode cX12_sell 86 = .ok (.getfield 26, 3) := by decide +kernel
theorem dX12_sell_89 : decode cX12_sell 89 = .ok (.ireturn, 1) := by decide +kernel
theorem dX12_ownerIn_0 : decode cX12_ownerIn 0 = .ok (.iconst 0, 1) := by decide +kernel
theorem dX12_ownerIn_1 : decode cX12_ownerIn 1 = .ok (.istore_n 3, 1) := by decide +kernel
theorem dX12_ownerIn_2 : decode cX12_ownerIn 2 = .ok (.iconst (-1), 1) := by decide +kernel
theorem dX12_ownerIn_3 : decode cX12_ownerIn 3 = .ok (.istore 4, 2) := by decide +kernel
theorem dX12_ownerIn_5 : decode cX12_ownerIn 5 = .ok (.iconst 0, 1) := by decide +kernel
theorem dX12_ownerIn_6 : decode cX12_ownerIn 6 = .ok (.istore 5, 2) := by decide +kernel
theorem dX12_ownerIn_8 : decode cX12_ownerIn 8 = .ok (.iload 5, 2) := by decide +kernel
theorem dX12_ownerIn_10 : decode cX12_ownerIn 10 = .ok (.aload_n 0, 1) := by decide +kernel
theorem dX12_ownerIn_11 : decode cX12_ownerIn 11 = .ok (.getfield 26, 3) := by decide +kernel
theorem dX12_ownerIn_14 : decode cX12_ownerIn 14 = .ok (.if_icmp .ge 60, 3) := by decide +kernel
theorem dX12_ownerIn_17 : decode cX12_ownerIn 17 = .ok (.aload_n 0, 1) := by decide +kernel
theorem dX12_ownerIn_18 : decode cX12_ownerIn 18 = .ok (.getfield 29, 3) := by decide +kernel
theorem dX12_ownerIn_21 : decode cX12_ownerIn 21 = .ok (.iload 5, 2) := by decide +kernel
theorem dX12_ownerIn_23 : decode cX12_ownerIn 23 = .ok (.iaload, 1) := by decide +kernel
theorem dX12_ownerIn_24 : decode cX12_ownerIn 24 = .ok (.iload_n 1, 1) := by decide +kernel
theorem dX12_ownerIn_25 : decode cX12_ownerIn 25 = .ok (.if_icmp .ne 43, 3) := by decide +kernel
theorem dX12_ownerIn_28 : decode cX12_ownerIn 28 = .ok (.aload_n 0, 1) := by decide +kernel
theorem dX12_ownerIn_29 : decode cX12_ownerIn 29 = .ok (.getfield 36, 3) := by decide +kernel
theorem dX12_ownerIn_32 : decode cX12_ownerIn 32 = .ok (.iload 5, 2) := by decide +kernel
theorem dX12_ownerIn_34 : decode cX12_ownerIn 34 = .ok (.iaload, 1) := by decide +kernel
theorem dX12_ownerIn_35 : decode cX12_ownerIn 35 = .ok (.iload_n 2, 1) := by decide +kernel
theorem dX12_ownerIn_36 : decode cX12_ownerIn 36 = .ok (.if_icmp .gt 32, 3) := by decide +kernel
theorem dX12_ownerIn_39 : decode cX12_ownerIn 39 = .ok (.aload_n 0, 1) := by decide +kernel
theorem dX12_ownerIn_40 : decode cX12_ownerIn 40 = .ok (.getfield 36, 3) := by decide +kernel
theorem dX12_ownerIn_43 : decode cX12_ownerIn 43 = .ok (.iload 5, 2) := by decide +kernel
theorem dX12_ownerIn_45 : decode cX12_ownerIn 45 = .ok (.iaload, 1) := by decide +kernel
theorem dX12_ownerIn_46 : decode cX12_ownerIn 46 = .ok (.iload 4, 2) := by decide +kernel
theorem dX12_ownerIn_48 : decode cX12_ownerIn 48 = .ok (.if_icmp .lt 20, 3) := by decide +kernel
theorem dX12_ownerIn_51 : decode cX12_ownerIn 51 = .ok (.aload_n 0, 1) := by decide +kernel
theorem dX12_ownerIn_52 : decode cX12_ownerIn 52 = .ok (.getfield 36, 3) := by decide +kernel
theorem dX12_ownerIn_55 : decode cX12_ownerIn 55 = .ok (.iload 5, 2) := by decide +kernel
theorem dX12_ownerIn_57 : decode cX12_ownerIn 57 = .ok (.iaload, 1) := by decide +kernel
theorem dX12_ownerIn_58 : decode cX12_ownerIn 58 = .ok (.istore 4, 2) := by decide +kernel
theorem dX12_ownerIn_60 : decode cX12_ownerIn 60 = .ok (.aload_n 0, 1) := by decide +kernel
theorem dX12_ownerIn_61 : decode cX12_ownerIn 61 = .ok (.getfield 33, 3) := by decide +kernel
theorem dX12_ownerIn_64 : decode cX12_ownerIn 64 = .ok (.iload 5, 2) := by decide +kernel
theorem dX12_ownerIn_66 : decode cX12_ownerIn 66 = .ok (.iaload, 1) := by decide +kernel
theorem dX12_ownerIn_67 : decode cX12_ownerIn 67 = .ok (.istore_n 3, 1) := by decide +kernel
theorem dX12_ownerIn_68 : decode cX12_ownerIn 68 = .ok (.iinc 5 1, 3) := by decide +kernel
theorem dX12_ownerIn_71 : decode cX12_ownerIn 71 = .ok (.goto (-63), 3) := by decide +kernel
theorem dX12_ownerIn_74 : decode cX12_ownerIn 74 = .ok (.iload_n 3, 1) := by decide +kernel
theorem dX12_ownerIn_75 : decode cX12_ownerIn 75 = .ok (.ireturn, 1) := by decide +kernel
theorem dX12_owner_0 : decode cX12_owner 0 = .ok (.iload_n 1, 1) := by decide +kernel
theorem dX12_owner_1 : decode cX12_owner 1 = .ok (.invokestatic 19, 3) := by decide +kernel
theorem dX12_owner_4 : decode cX12_owner 4 = .ok (.ifCond .eq 19, 3) := by decide +kernel
theorem dX12_owner_7 : decode cX12_owner 7 = .ok (.iload_n 2, 1) := by decide +kernel
theorem dX12_owner_8 : decode cX12_owner 8 = .ok (.invokestatic 39, 3) := by decide +kernel
theorem dX12_owner_11 : decode cX12_owner 11 = .ok (.ifCond .eq 12, 3) := by decide +kernel
theorem dX12_owner_14 : decode cX12_owner 14 = .ok (.aload_n 0, 1) := by decide +kernel
theorem dX12_owner_15 : decode cX12_owner 15 = .ok (.iload_n 1, 1) := by decide +kernel
theorem dX12_owner_16 : decode cX12_owner 16 = .ok (.iload_n 2, 1) := by decide +kernel
theorem dX12_owner_17 : decode cX12_owner 17 = .ok (.invokevirtual 42, 3) := by decide +kernel
theorem dX12_owner_20 : decode cX12_owner 20 = .ok (.goto 5, 3) := by decide +kernel
theorem dX12_owner_23 : decode cX12_owner 23 = .ok (.bipush (-2), 2) := by decide +kernel
theorem dX12_owner_25 : decode cX12_owner 25 = .ok (.ireturn, 1) := by decide +kernel
theorem dX12_heir_0 : decode cX12_heir 0 = .ok (.iload_n 1, 1) := by decide +kernel
theorem dX12_heir_1 : decode cX12_heir 1 = .ok (.invokestatic 23, 3) := by decide +kernel
theorem dX12_heir_4 : decode cX12_heir 4 = .ok (.ifCond .eq 27, 3) := by decide +kernel
theorem dX12_heir_7 : decode cX12_heir 7 = .ok (.iload_n 2, 1) := by decide +kernel
theorem dX12_heir_8 : decode cX12_heir 8 = .ok (.invokestatic 23, 3) := by decide +kernel
theorem dX12_heir_11 : decode cX12_heir 11 = .ok (.ifCond .eq 20, 3) := by decide +kernel
theorem dX12_heir_14 : decode cX12_heir 14 = .ok (.iload_n 1, 1) := by decide +kernel
theorem dX12_heir_15 : decode cX12_heir 15 = .ok (.iload_n 2, 1) := by decide +kernel
theorem dX12_heir_16 : decode cX12_heir 16 = .ok (.if_icmp .eq 15, 3) := by decide +kernel
theorem dX12_heir_19 : decode cX12_heir 19 = .ok (.iload_n 3, 1) := by decide +kernel
theorem dX12_heir_20 : decode cX12_heir 20 = .ok (.i2l, 1) := by decide +kernel
theorem dX12_heir_21 : decode cX12_heir 21 = .ok (.lconst 0, 1) := by decide +kernel
theorem dX12_heir_22 : decode cX12_heir 22 = .ok (.ldc2_w 46, 3) := by decide +kernel
theorem dX12_heir_25 : decode cX12_heir 25 = .ok (.invokestatic 5, 3) := by decide +kernel
theorem dX12_heir_28 : decode cX12_heir 28 = .ok (.ifCond .ne 6, 3) := by decide +kernel
theorem dX12_heir_31 : decode cX12_heir 31 = .ok (.bipush (-2), 2) := by decide +kernel
theorem dX12_heir_33 : decode cX12_heir 33 = .ok (.ireturn, 1) := by decide +kernel
theorem dX12_heir_34 : decode cX12_heir 34 = .ok (.aload_n 0, 1) := by decide +kernel
theorem dX12_heir_35 : decode cX12_heir 35 = .ok (.getfield 48, 3) := by decide +kernel
theorem dX12_heir_38 : decode cX12_heir 38 = .ok (.bipush 10, 2) := by decide +kernel
theorem dX12_heir_40 : decode cX12_heir 40 = .ok (.iload_n 1, 1) := by decide +kernel
theorem dX12_heir_41 : decode cX12_heir 41 = .ok (.imul, 1) := by decide +kernel
theorem dX12_heir_42 : decode cX12_heir 42 = .ok (.iload_n 2, 1) := by decide +kernel
theorem dX12_heir_43 : decode cX12_heir 43 = .ok (.iadd, 1) := by decide +kernel
theorem dX12_heir_44 : decode cX12_heir 44 = .ok (.iaload, 1) := by decide +kernel
theorem dX12_heir_45 : decode cX12_heir 45 = .ok (.istore 4, 2) := by decide +kernel
theorem dX12_heir_47 : decode cX12_heir 47 = .ok (.aload_n 0, 1) := by decide +kernel
theorem dX12_heir_48 : decode cX12_heir 48 = .ok (.getfield 48, 3) := by decide +kernel
theorem dX12_heir_51 : decode cX12_heir 51 = .ok (.bipush 10, 2) := by decide +kernel
theorem dX12_heir_53 : decode cX12_heir 53 = .ok (.iload_n 1, 1) := by decide +kernel
theorem dX12_heir_54 : decode cX12_heir 54 = .ok (.imul, 1) := by decide +kernel
theorem dX12_heir_55 : decode cX12_heir 55 = .ok (.iload_n 2, 1) := by decide +kernel
theorem dX12_heir_56 : decode cX12_heir 56 = .ok (.iadd, 1) := by decide +kernel
theorem dX12_heir_57 : decode cX12_heir 57 = .ok (.iload_n 3, 1) := by decide +kernel
theorem dX12_heir_58 : decode cX12_heir 58 = .ok (.iastore, 1) := by decide +kernel
theorem dX12_heir_59 : decode cX12_heir 59 = .ok (.iload 4, 2) := by decide +kernel
theorem dX12_heir_61 : decode cX12_heir 61 = .ok (.ireturn, 1) := by decide +kernel
theorem dX12_set_0 : decode cX12_set 0 = .ok (.iload_n 1, 1) := by decide +kernel
theorem dX12_set_1 : decode cX12_set 1 = .ok (.invokestatic 19, 3) := by decide +kernel
theorem dX12_set_4 : decode cX12_set 4 = .ok (.ifCond .ne 6, 3) := by decide +kernel
theorem dX12_set_7 : decode cX12_set 7 = .ok (.bipush (-2), 2) := by decide +kernel
theorem dX12_set_9 : decode cX12_set 9 = .ok (.ireturn, 1) := by decide +kernel
theorem dX12_set_10 : decode cX12_set 10 = .ok (.iconst 0, 1) := by decide +kernel
theorem dX12_set_11 : decode cX12_set 11 = .ok (.istore 4, 2) := by decide +kernel
theorem dX12_set_13 : decode cX12_set 13 = .ok (.iload_n 2, 1) := by decide +kernel
theorem dX12_set_14 : decode cX12_set 14 = .ok (.tableswitch 160 0 3 #[30, 63, 96, 129], 30) := by decide +kernel
theorem dX12_set_44 : decode cX12_set 44 = .ok (.iload_n 3, 1) := by decide +kernel
theorem dX12_set_45 : decode cX12_set 45 = .ok (.i2l, 1) := by decide +kernel
theorem dX12_set_46 : decode cX12_set 46 = .ok (.lconst 0, 1) := by decide +kernel
theorem dX12_set_47 : decode cX12_set 47 = .ok (.ldc2_w 51, 3) := by decide +kernel
theorem dX12_set_50 : decode cX12_set 50 = .ok (.invokestatic 5, 3) := by decide +kernel
theorem dX12_set_53 : decode cX12_set 53 = .ok (.ifCond .ne 6, 3) := by decide +kernel
theorem dX12_set_56 : decode cX12_set 56 = .ok (.bipush (-2), 2) := by decide +kernel
theorem dX12_set_58 : decode cX12_set 58 = .ok (.ireturn, 1) := by decide +kernel
theorem dX12_set_59 : decode cX12_set 59 = .ok (.aload_n 0, 1) := by decide +kernel
theorem dX12_set_60 : decode cX12_set 60 = .ok (.getfield 53, 3) := by decide +kernel
theorem dX12_set_63 : decode cX12_set 63 = .ok (.iload_n 1, 1) := by decide +kernel
theorem dX12_set_64 : decode cX12_set 64 = .ok (.iaload, 1) := by decide +kernel
theorem dX12_set_65 : decode cX12_set 65 = .ok (.istore 4, 2) := by decide +kernel
theorem dX12_set_67 : decode cX12_set 67 = .ok (.aload_n 0, 1) := by decide +kernel
theorem dX12_set_68 : decode cX12_set 68 = .ok (.getfield 53, 3) := by decide +kernel
theorem dX12_set_71 : decode cX12_set 71 = .ok (.iload_n 1, 1) := by decide +kernel
theorem dX12_set_72 : decode cX12_set 72 = .ok (.iload_n 3, 1) := by decide +kernel
theorem dX12_set_73 : decode cX12_set 73 = .ok (.iastore, 1) := by decide +kernel
theorem dX12_set_74 : decode cX12_set 74 = .ok (.iload 4, 2) := by decide +kernel
theorem dX12_set_76 : decode cX12_set 76 = .ok (.ireturn, 1) := by decide +kernel
theorem dX12_set_77 : decode cX12_set 77 = .ok (.iload_n 3, 1) := by decide +kernel
theorem dX12_set_78 : decode cX12_set 78 = .ok (.i2l, 1) := by decide +kernel
theorem dX12_set_79 : decode cX12_set 79 = .ok (.lconst 0, 1) := by decide +kernel
theorem dX12_set_80 : decode cX12_set 80 = .ok (.ldc2_w 3, 3) := by decide +kernel
theorem dX12_set_83 : decode cX12_set 83 = .ok (.invokestatic 5, 3) := by decide +kernel
theorem dX12_set_86 : decode cX12_set 86 = .ok (.ifCond .ne 6, 3) := by decide +kernel
theorem dX12_set_89 : decode cX12_set 89 = .ok (.bipush (-2), 2) := by decide +kernel
theorem dX12_set_91 : decode cX12_set 91 = .ok (.ireturn, 1) := by decide +kernel
theorem dX12_set_92 : decode cX12_set 92 = .ok (.aload_n 0, 1) := by decide +kernel
theorem dX12_set_93 : decode cX12_set 93 = .ok (.getfield 56, 3) := by decide +kernel
theorem dX12_set_96 : decode cX12_set 96 = .ok (.iload_n 1, 1) := by decide +kernel
theorem dX12_set_97 : decode cX12_set 97 = .ok (.iaload, 1) := by decide +kernel
theorem dX12_set_98 : decode cX12_set 98 = .ok (.istore 4, 2) := by decide +kernel
theorem dX12_set_100 : decode cX12_set 100 = .ok (.aload_n 0, 1) := by decide +kernel
theorem dX12_set_101 : decode cX12_set 101 = .ok (.getfield 56, 3) := by decide +kernel
theorem dX12_set_104 : decode cX12_set 104 = .ok (.iload_n 1, 1) := by decide +kernel
theorem dX12_set_105 : decode cX12_set 105 = .ok (.iload_n 3, 1) := by decide +kernel
theorem dX12_set_106 : decode cX12_set 106 = .ok (.iastore, 1) := by decide +kernel
theorem dX12_set_107 : decode cX12_set 107 = .ok (.iload 4, 2) := by decide +kernel
theorem dX12_set_109 : decode cX12_set 109 = .ok (.ireturn, 1) := by decide +kernel
theorem dX12_set_110 : decode cX12_set 110 = .ok (.iload_n 3, 1) := by decide +kernel
theorem dX12_set_111 : decode cX12_set 111 = .ok (.i2l, 1) := by decide +kernel
theorem dX12_set_112 : decode cX12_set 112 = .ok (.lconst 1, 1) := by decide +kernel
theorem dX12_set_113 : decode cX12_set 113 = .ok (.ldc2_w 59, 3) := by decide +kernel
theorem dX12_set_116 : decode cX12_set 116 = .ok (.invokestatic 5, 3) := by decide +kernel
theorem dX12_set_119 : decode cX12_set 119 = .ok (.ifCond .ne 6, 3) := by decide +kernel
theorem dX12_set_122 : decode cX12_set 122 = .ok (.bipush (-2), 2) := by decide +kernel
theorem dX12_set_124 : decode cX12_set 124 = .ok (.ireturn, 1) := by decide +kernel
theorem dX12_set_125 : decode cX12_set 125 = .ok (.aload_n 0, 1) := by decide +kernel
theorem dX12_set_126 : decode cX12_set 126 = .ok (.getfield 61, 3) := by decide +kernel
theorem dX12_set_129 : decode cX12_set 129 = .ok (.iload_n 1, 1) := by decide +kernel
theorem dX12_set_130 : decode cX12_set 130 = .ok (.iaload, 1) := by decide +kernel
theorem dX12_set_131 : decode cX12_set 131 = .ok (.istore 4, 2) := by decide +kernel
theorem dX12_set_133 : decode cX12_set 133 = .ok (.aload_n 0, 1) := by decide +kernel
theorem dX12_set_134 : decode cX12_set 134 = .ok (.getfield 61, 3) := by decide +kernel
theorem dX12_set_137 : decode cX12_set 137 = .ok (.iload_n 1, 1) := by decide +kernel
theorem dX12_set_138 : decode cX12_set 138 = .ok (.iload_n 3, 1) := by decide +kernel
theorem dX12_set_139 : decode cX12_set 139 = .ok (.iastore, 1) := by decide +kernel
theorem dX12_set_140 : decode cX12_set 140 = .ok (.iload 4, 2) := by decide +kernel
theorem dX12_set_142 : decode cX12_set 142 = .ok (.ireturn, 1) := by decide +kernel
theorem dX12_set_143 : decode cX12_set 143 = .ok (.iload_n 3, 1) := by decide +kernel
theorem dX12_set_144 : decode cX12_set 144 = .ok (.i2l, 1) := by decide +kernel
theorem dX12_set_145 : decode cX12_set 145 = .ok (.lconst 0, 1) := by decide +kernel
theorem dX12_set_146 : decode cX12_set 146 = .ok (.lconst 1, 1) := by decide +kernel
theorem dX12_set_147 : decode cX12_set 147 = .ok (.invokestatic 5, 3) := by decide +kernel
theorem dX12_set_150 : decode cX12_set 150 = .ok (.ifCond .ne 6, 3) := by decide +kernel
theorem dX12_set_153 : decode cX12_set 153 = .ok (.bipush (-2), 2) := by decide +kernel
theorem dX12_set_155 : decode cX12_set 155 = .ok (.ireturn, 1) := by decide +kernel
theorem dX12_set_156 : decode cX12_set 156 = .ok (.aload_n 0, 1) := by decide +kernel
theorem dX12_set_157 : decode cX12_set 157 = .ok (.getfield 64, 3) := by decide +kernel
theorem dX12_set_160 : decode cX12_set 160 = .ok (.iload_n 1, 1) := by decide +kernel
theorem dX12_set_161 : decode cX12_set 161 = .ok (.iaload, 1) := by decide +kernel
theorem dX12_set_162 : decode cX12_set 162 = .ok (.istore 4, 2) := by decide +kernel
theorem dX12_set_164 : decode cX12_set 164 = .ok (.aload_n 0, 1) := by decide +kernel
theorem dX12_set_165 : decode cX12_set 165 = .ok (.getfield 64, 3) := by decide +kernel
theorem dX12_set_168 : decode cX12_set 168 = .ok (.iload_n 1, 1) := by decide +kernel
theorem dX12_set_169 : decode cX12_set 169 = .ok (.iload_n 3, 1) := by decide +kernel
theorem dX12_set_170 : decode cX12_set 170 = .ok (.iastore, 1) := by decide +kernel
theorem dX12_set_171 : decode cX12_set 171 = .ok (.iload 4, 2) := by decide +kernel
theorem dX12_set_173 : decode cX12_set 173 = .ok (.ireturn, 1) := by decide +kernel
theorem dX12_set_174 : decode cX12_set 174 = .ok (.bipush (-2), 2) := by decide +kernel
theorem dX12_set_176 : decode cX12_set 176 = .ok (.ireturn, 1) := by decide +kernel
theorem dX12_highOf_0 : decode cX12_highOf 0 = .ok (.aload_n 0, 1) := by decide +kernel
theorem dX12_highOf_1 : decode cX12_highOf 1 = .ok (.getfield 67, 3) := by decide +kernel
theorem dX12_highOf_4 : decode cX12_highOf 4 = .ok (.iload_n 1, 1) := by decide +kernel
theorem dX12_highOf_5 : decode cX12_highOf 5 = .ok (.iaload, 1) := by decide +kernel
theorem dX12_highOf_6 : decode cX12_highOf 6 = .ok (.aload_n 0, 1) := by decide +kernel
theorem dX12_highOf_7 : decode cX12_highOf 7 = .ok (.getfield 70, 3) := by decide +kernel
theorem dX12_highOf_10 : decode cX12_highOf 10 = .ok (.iload_n 1, 1) := by decide +kernel
theorem dX12_highOf_11 : decode cX12_highOf 11 = .ok (.iaload, 1) := by decide +kernel
theorem dX12_highOf_12 : decode cX12_highOf 12 = .ok (.aload_n 0, 1) := by decide +kernel
theorem dX12_highOf_13 : decode cX12_highOf 13 = .ok (.getfield 15, 3) := by decide +kernel
theorem dX12_highOf_16 : decode cX12_highOf 16 = .ok (.aload_n 0, 1) := by decide +kernel
theorem dX12_highOf_17 : decode cX12_highOf 17 = .ok (.getfield 73, 3) := by decide +kernel
theorem dX12_highOf_20 : decode cX12_highOf 20 = .ok (.iload_n 1, 1) := by decide +kernel
theorem dX12_highOf_21 : decode cX12_highOf 21 = .ok (.iaload, 1) := by decide +kernel
theorem dX12_highOf_22 : decode cX12_highOf 22 = .ok (.isub, 1) := by decide +kernel
theorem dX12_highOf_23 : decode cX12_highOf 23 = .ok (.sipush 365, 3) := by decide +kernel
theorem dX12_highOf_26 : decode cX12_highOf 26 = .ok (.idiv, 1) := by decide +kernel
theorem dX12_highOf_27 : decode cX12_highOf 27 = .ok (.imul, 1) := by decide +kernel
theorem dX12_highOf_28 : decode cX12_highOf 28 = .ok (.iadd, 1) := by decide +kernel
theorem dX12_highOf_29 : decode cX12_highOf 29 = .ok (.ireturn, 1) := by decide +kernel
theorem dX12_trees_0 : decode cX12_trees 0 = .ok (.iload_n 1, 1) := by decide +kernel
theorem dX12_trees_1 : decode cX12_trees 1 = .ok (.invokestatic 19, 3) := by decide +kernel
theorem dX12_trees_4 : decode cX12_trees 4 = .ok (.ifCond .eq 27, 3) := by decide +kernel
theorem dX12_trees_7 : decode cX12_trees 7 = .ok (.iload_n 2, 1) := by decide +kernel
theorem dX12_trees_8 : decode cX12_trees 8 = .ok (.i2l, 1) := by decide +kernel
theorem dX12_trees_9 : decode cX12_trees 9 = .ok (.lconst 0, 1) := by decide +kernel
theorem dX12_trees_10 : decode cX12_trees 10 = .ok (.ldc2_w 76, 3) := by decide +kernel
theorem dX12_trees_13 : decode cX12_trees 13 = .ok (.invokestatic 5, 3) := by decide +kernel
theorem dX12_trees_16 : decode cX12_trees 16 = .ok (.ifCond .eq 15, 3) := by decide +kernel
theorem dX12_trees_19 : decode cX12_trees 19 = .ok (.iload_n 3, 1) := by decide +kernel
theorem dX12_trees_20 : decode cX12_trees 20 = .ok (.i2l, 1) := by decide +kernel
theorem dX12_trees_21 : decode cX12_trees 21 = .ok (.lconst 0, 1) := by decide +kernel
theorem dX12_trees_22 : decode cX12_trees 22 = .ok (.ldc2_w 11, 3) := by decide +kernel
theorem dX12_trees_25 : decode cX12_trees 25 = .ok (.invokestatic 5, 3) := by decide +kernel
theorem dX12_trees_28 : decode cX12_trees 28 = .ok (.ifCond .ne 6, 3) := by decide +kernel
theorem dX12_trees_31 : decode cX12_trees 31 = .ok (.bipush (-2), 2) := by decide +kernel
theorem dX12_trees_33 : decode cX12_trees 33 = .ok (.ireturn, 1) := by decide +kernel
theorem dX12_trees_34 : decode cX12_trees 34 = .ok (.aload_n 0, 1) := by decide +kernel
theorem dX12_trees_35 : decode cX12_trees 35 = .ok (.iload_n 1, 1) := by decide +kernel
theorem dX12_trees_36 : decode cX12_trees 36 = .ok (.invokevirtual 78, 3) := by decide +kernel
theorem dX12_trees_39 : decode cX12_trees 39 = .ok (.istore 4, 2) := by decide +kernel
theorem dX12_trees_41 : decode cX12_trees 41 = .ok (.aload_n 0, 1) := by decide +kernel
theorem dX12_trees_42 : decode cX12_trees 42 = .ok (.getfield 67, 3) := by decide +kernel
theorem dX12_trees_45 : decode cX12_trees 45 = .ok (.iload_n 1, 1) := by decide +kernel
theorem dX12_trees_46 : decode cX12_trees 46 = .ok (.iload_n 2, 1) := by decide +kernel
theorem dX12_trees_47 : decode cX12_trees 47 = .ok (.iastore, 1) := by decide +kernel
theorem dX12_trees_48 : decode cX12_trees 48 = .ok (.aload_n 0, 1) := by decide +kernel
theorem dX12_trees_49 : decode cX12_trees 49 = .ok (.getfield 70, 3) := by decide +kernel
theorem dX12_trees_52 : decode cX12_trees 52 = .ok (.iload_n 1, 1) := by decide +kernel
theorem dX12_trees_53 : decode cX12_trees 53 = .ok (.iload_n 3, 1) := by decide +kernel
theorem dX12_trees_54 : decode cX12_trees 54 = .ok (.iastore, 1) := by decide +kernel
theorem dX12_trees_55 : decode cX12_trees 55 = .ok (.aload_n 0, 1) := by decide +kernel
theorem dX12_trees_56 : decode cX12_trees 56 = .ok (.getfield 73, 3) := by decide +kernel
theorem dX12_trees_59 : decode cX12_trees 59 = .ok (.iload_n 1, 1) := by decide +kernel
theorem dX12_trees_60 : decode cX12_trees 60 = .ok (.aload_n 0, 1) := by decide +kernel
theorem dX12_trees_61 : decode cX12_trees 61 = .ok (.getfield 15, 3) := by decide +kernel
theorem dX12_trees_64 : decode cX12_trees 64 = .ok (.iastore, 1) := by decide +kernel
theorem dX12_trees_65 : decode cX12_trees 65 = .ok (.iload 4, 2) := by decide +kernel
theorem dX12_trees_67 : decode cX12_trees 67 = .ok (.ireturn, 1) := by decide +kernel
theorem dX12_high_0 : decode cX12_high 0 = .ok (.iload_n 1, 1) := by decide +kernel
theorem dX12_high_1 : decode cX12_high 1 = .ok (.invokestatic 19, 3) := by decide +kernel
theorem dX12_high_4 : decode cX12_high 4 = .ok (.ifCond .eq 11, 3) := by decide +kernel
theorem dX12_high_7 : decode cX12_high 7 = .ok (.aload_n 0, 1) := by decide +kernel
theorem dX12_high_8 : decode cX12_high 8 = .ok (.iload_n 1, 1) := by decide +kernel
theorem dX12_high_9 : decode cX12_high 9 = .ok (.invokevirtual 78, 3) := by decide +kernel
theorem dX12_high_12 : decode cX12_high 12 = .ok (.goto 5, 3) := by decide +kernel
theorem dX12_high_15 : decode cX12_high 15 = .ok (.bipush (-2), 2) := by decide +kernel
theorem dX12_high_17 : decode cX12_high 17 = .ok (.ireturn, 1) := by decide +kernel
theorem dX12_isTower_0 : decode cX12_isTower 0 = .ok (.iload_n 1, 1) := by decide +kernel
theorem dX12_isTower_1 : decode cX12_isTower 1 = .ok (.ifCond .lt 15, 3) := by decide +kernel
theorem dX12_isTower_4 : decode cX12_isTower 4 = .ok (.iload_n 1, 1) := by decide +kernel
theorem dX12_isTower_5 : decode cX12_isTower 5 = .ok (.aload_n 0, 1) := by decide +kernel
theorem dX12_isTower_6 : decode cX12_isTower 6 = .ok (.getfield 82, 3) := by decide +kernel
theorem dX12_isTower_9 : decode cX12_isTower 9 = .ok (.if_icmp .ge 7, 3) := by decide +kernel
theorem dX12_isTower_12 : decode cX12_isTower 12 = .ok (.iconst 1, 1) := by decide +kernel
theorem dX12_isTower_13 : decode cX12_isTower 13 = .ok (.goto 4, 3) := by decide +kernel
theorem dX12_isTower_16 : decode cX12_isTower 16 = .ok (.iconst 0, 1) := by decide +kernel
theorem dX12_isTower_17 : decode cX12_isTower 17 = .ok (.ireturn, 1) := by decide +kernel
theorem dX12_isSpan_0 : decode cX12_isSpan 0 = .ok (.iload_n 1, 1) := by decide +kernel
theorem dX12_isSpan_1 : decode cX12_isSpan 1 = .ok (.ifCond .lt 15, 3) := by decide +kernel
theorem dX12_isSpan_4 : decode cX12_isSpan 4 = .ok (.iload_n 1, 1) := by decide +kernel
theorem dX12_isSpan_5 : decode cX12_isSpan 5 = .ok (.aload_n 0, 1) := by decide +kernel
theorem dX12_isSpan_6 : decode cX12_isSpan 6 = .ok (.getfield 85, 3) := by decide +kernel
theorem dX12_isSpan_9 : decode cX12_isSpan 9 = .ok (.if_icmp .ge 7, 3) := by decide +kernel
theorem dX12_isSpan_12 : decode cX12_isSpan 12 = .ok (.iconst 1, 1) := by decide +kernel
theorem dX12_isSpan_13 : decode cX12_isSpan 13 = .ok (.goto 4, 3) := by decide +kernel
theorem dX12_isSpan_16 : decode cX12_isSpan 16 = .ok (.iconst 0, 1) := by decide +kernel
theorem dX12_isSpan_17 : decode cX12_isSpan 17 = .ok (.ireturn, 1) := by decide +kernel
theorem dX12_tower_0 : decode cX12_tower 0 = .ok (.iload_n 1, 1) := by decide +kernel
theorem dX12_tower_1 : decode cX12_tower 1 = .ok (.invokestatic 19, 3) := by decide +kernel
theorem dX12_tower_4 : decode cX12_tower 4 = .ok (.ifCond .eq 17, 3) := by decide +kernel
theorem dX12_tower_7 : decode cX12_tower 7 = .ok (.iload_n 2, 1) := by decide +kernel
theorem dX12_tower_8 : decode cX12_tower 8 = .ok (.i2l, 1) := by decide +kernel
theorem dX12_tower_9 : decode cX12_tower 9 = .ok (.ldc2_w 88, 3) := by decide +kernel
theorem dX12_tower_12 : decode cX12_tower 12 = .ok (.ldc2_w 90, 3) := by decide +kernel
theorem dX12_tower_15 : decode cX12_tower 15 = .ok (.invokestatic 5, 3) := by decide +kernel
theorem dX12_tower_18 : decode cX12_tower 18 = .ok (.ifCond .ne 6, 3) := by decide +kernel
theorem dX12_tower_21 : decode cX12_tower 21 = .ok (.bipush (-2), 2) := by decide +kernel
theorem dX12_tower_23 : decode cX12_tower 23 = .ok (.ireturn, 1) := by decide +kernel
theorem dX12_tower_24 : decode cX12_tower 24 = .ok (.aload_n 0, 1) := by decide +kernel
theorem dX12_tower_25 : decode cX12_tower 25 = .ok (.getfield 82, 3) := by decide +kernel
theorem dX12_tower_28 : decode cX12_tower 28 = .ok (.bipush 16, 2) := by decide +kernel
theorem dX12_tower_30 : decode cX12_tower 30 = .ok (.if_icmp .ne 6, 3) := by decide +kernel
theorem dX12_tower_33 : decode cX12_tower 33 = .ok (.bipush (-4), 2) := by decide +kernel
theorem dX12_tower_35 : decode cX12_tower 35 = .ok (.ireturn, 1) := by decide +kernel
theorem dX12_tower_36 : decode cX12_tower 36 = .ok (.aload_n 0, 1) := by decide +kernel
theorem dX12_tower_37 : decode cX12_tower 37 = .ok (.getfield 92, 3) := by decide +kernel
theorem dX12_tower_40 : decode cX12_tower 40 = .ok (.aload_n 0, 1) := by decide +kernel
theorem dX12_tower_41 : decode cX12_tower 41 = .ok (.getfield 82, 3) := by decide +kernel
theorem dX12_tower_44 : decode cX12_tower 44 = .ok (.iload_n 1, 1) := by decide +kernel
theorem dX12_tower_45 : decode cX12_tower 45 = .ok (.iastore, 1) := by decide +kernel
theorem dX12_tower_46 : decode cX12_tower 46 = .ok (.aload_n 0, 1) := by decide +kernel
theorem dX12_tower_47 : decode cX12_tower 47 = .ok (.getfield 95, 3) := by decide +kernel
theorem dX12_tower_50 : decode cX12_tower 50 = .ok (.aload_n 0, 1) := by decide +kernel
theorem dX12_tower_51 : decode cX12_tower 51 = .ok (.getfield 82, 3) := by decide +kernel
theorem dX12_tower_54 : decode cX12_tower 54 = .ok (.iload_n 2, 1) := by decide +kernel
theorem dX12_tower_55 : decode cX12_tower 55 = .ok (.iastore, 1) := by decide +kernel
theorem dX12_tower_56 : decode cX12_tower 56 = .ok (.aload_n 0, 1) := by decide +kernel
theorem dX12_tower_57 : decode cX12_tower 57 = .ok (.dup, 1) := by decide +kernel
theorem dX12_tower_58 : decode cX12_tower 58 = .ok (.getfield 82, 3) := by decide +kernel
theorem dX12_tower_61 : decode cX12_tower 61 = .ok (.iconst 1, 1) := by decide +kernel
theorem dX12_tower_62 : decode cX12_tower 62 = .ok (.iadd, 1) := by decide +kernel
theorem dX12_tower_63 : decode cX12_tower 63 = .ok (.putfield 82, 3) := by decide +kernel
theorem dX12_tower_66 : decode cX12_tower 66 = .ok (.aload_n 0, 1) := by decide +kernel
theorem dX12_tower_67 : decode cX12_tower 67 = .ok (.getfield 82, 3) := by decide +kernel
theorem dX12_tower_70 : decode cX12_tower 70 = .ok (.iconst 1, 1) := by decide +kernel
theorem dX12_tower_71 : decode cX12_tower 71 = .ok (.isub, 1) := by decide +kernel
theorem dX12_tower_72 : decode cX12_tower 72 = .ok (.ireturn, 1) := by decide +kernel
theorem dX12_span_0 : decode cX12_span 0 = .ok (.aload_n 0, 1) := by decide +kernel
theorem dX12_span_1 : decode cX12_span 1 = .ok (.iload_n 1, 1) := by decide +kernel
theorem dX12_span_2 : decode cX12_span 2 = .ok (.invokevirtual 98, 3) := by decide +kernel
theorem dX12_span_5 : decode cX12_span 5 = .ok (.ifCond .eq 38, 3) := by decide +kernel
theorem dX12_span_8 : decode cX12_span 8 = .ok (.aload_n 0, 1) := by decide +kernel
theorem dX12_span_9 : decode cX12_span 9 = .ok (.iload_n 2, 1) := by decide +kernel
theorem dX12_span_10 : decode cX12_span 10 = .ok (.invokevirtual 98, 3) := by decide +kernel
theorem dX12_span_13 : decode cX12_span 13 = .ok (.ifCond .eq 30, 3) := by decide +kernel
theorem dX12_span_16 : decode cX12_span 16 = .ok (.iload_n 1, 1) := by decide +kernel
theorem dX12_span_17 : decode cX12_span 17 = .ok (.iload_n 2, 1) := by decide +kernel
theorem dX12_span_18 : decode cX12_span 18 = .ok (.if_icmp .eq 25, 3) := by decide +kernel
theorem dX12_span_21 : decode cX12_span 21 = .ok (.iload_n 3, 1) := by decide +kernel
theorem dX12_span_22 : decode cX12_span 22 = .ok (.invokestatic 19, 3) := by decide +kernel
theorem dX12_span_25 : decode cX12_span 25 = .ok (.ifCond .eq 18, 3) := by decide +kernel
theorem dX12_span_28 : decode cX12_span 28 = .ok (.iload 4, 2) := by decide +kernel
theorem dX12_span_30 : decode cX12_span 30 = .ok (.i2l, 1) := by decide +kernel
theorem dX12_span_31 : decode cX12_span 31 = .ok (.ldc2_w 101, 3) := by decide +kernel
theorem dX12_span_34 : decode cX12_span 34 = .ok (.ldc2_w 103, 3) := by decide +kernel
theorem dX12_span_37 : decode cX12_span 37 = .ok (.invokestatic 5, 3) := by decide +kernel
theorem dX12_span_40 : decode cX12_span 40 = .ok (.ifCond .ne 6, 3) := by decide +kernel
theorem dX12_span_43 : decode cX12_span 43 = .ok (.bipush (-2), 2) := by decide +kernel
theorem dX12_span_45 : decode cX12_span 45 = .ok (.ireturn, 1) := by decide +kernel
theorem dX12_span_46 : decode cX12_span 46 = .ok (.aload_n 0, 1) := by decide +kernel
theorem dX12_span_47 : decode cX12_span 47 = .ok (.getfield 85, 3) := by decide +kernel
theorem dX12_span_50 : decode cX12_span 50 = .ok (.bipush 16, 2) := by decide +kernel
theorem dX12_span_52 : decode cX12_span 52 = .ok (.if_icmp .ne 6, 3) := by decide +kernel
theorem dX12_span_55 : decode cX12_span 55 = .ok (.bipush (-4), 2) := by decide +kernel
theorem dX12_span_57 : decode cX12_span 57 = .ok (.ireturn, 1) := by decide +kernel
theorem dX12_span_58 : decode cX12_span 58 = .ok (.aload_n 0, 1) := by decide +kernel
theorem dX12_span_59 : decode cX12_span 59 = .ok (.getfield 105, 3) := by decide +kernel
theorem dX12_span_62 : decode cX12_span 62 = .ok (.aload_n 0, 1) := by decide +kernel
theorem dX12_span_63 : decode cX12_span 63 = .ok (.getfield 85, 3) := by decide +kernel
theorem dX12_span_66 : decode cX12_span 66 = .ok (.iload_n 1, 1) := by decide +kernel
theorem dX12_span_67 : decode cX12_span 67 = .ok (.iastore, 1) := by decide +kernel
theorem dX12_span_68 : decode cX12_span 68 = .ok (.aload_n 0, 1) := by decide +kernel
theorem dX12_span_69 : decode cX12_span 69 = .ok (.getfield 108, 3) := by decide +kernel
theorem dX12_span_72 : decode cX12_span 72 = .ok (.aload_n 0, 1) := by decide +kernel
theorem dX12_span_73 : decode cX12_span 73 = .ok (.getfield 85, 3) := by decide +kernel
theorem dX12_span_76 : decode cX12_span 76 = .ok (.iload_n 2, 1) := by decide +kernel
theorem dX12_span_77 : decode cX12_span 77 = .ok (.iastore, 1) := by decide +kernel
theorem dX12_span_78 : decode cX12_span 78 = .ok (.aload_n 0, 1) := by decide +kernel
theorem dX12_span_79 : decode cX12_span 79 = .ok (.getfield 111, 3) := by decide +kernel
theorem dX12_span_82 : decode cX12_span 82 = .ok (.aload_n 0, 1) := by decide +kernel
theorem dX12_span_83 : decode cX12_span 83 = .ok (.getfield 85, 3) := by decide +kernel
theorem dX12_span_86 : decode cX12_span 86 = .ok (.iload_n 3, 1) := by decide +kernel
theorem dX12_span_87 : decode cX12_span 87 = .ok (.iastore, 1) := by decide +kernel
theorem dX12_span_88 : decode cX12_span 88 = .ok (.aload_n 0, 1) := by decide +kernel
theorem dX12_span_89 : decode cX12_span 89 = .ok (.getfield 114, 3) := by decide +kernel
theorem dX12_span_92 : decode cX12_span 92 = .ok (.aload_n 0, 1) := by decide +kernel
theorem dX12_span_93 : decode cX12_span 93 = .ok (.getfield 85, 3) := by decide +kernel
theorem dX12_span_96 : decode cX12_span 96 = .ok (.iload 4, 2) := by decide +kernel
theorem dX12_span_98 : decode cX12_span 98 = .ok (.iastore, 1) := by decide +kernel
theorem dX12_span_99 : decode cX12_span 99 = .ok (.aload_n 0, 1) := by decide +kernel
theorem dX12_span_100 : decode cX12_span 100 = .ok (.getfield 117, 3) := by decide +kernel
theorem dX12_span_103 : decode cX12_span 103 = .ok (.aload_n 0, 1) := by decide +kernel
theorem dX12_span_104 : decode cX12_span 104 = .ok (.getfield 85, 3) := by decide +kernel
theorem dX12_span_107 : decode cX12_span 107 = .ok (.bipush 20, 2) := by decide +kernel
theorem dX12_span_109 : decode cX12_span 109 = .ok (.iastore, 1) := by decide +kernel
theorem dX12_span_110 : decode cX12_span 110 = .ok (.aload_n 0, 1) := by decide +kernel
theorem dX12_span_111 : decode cX12_span 111 = .ok (.getfield 120, 3) := by decide +kernel
theorem dX12_span_114 : decode cX12_span 114 = .ok (.aload_n 0, 1) := by decide +kernel
theorem dX12_span_115 : decode cX12_span 115 = .ok (.getfield 85, 3) := by decide +kernel
theorem dX12_span_118 : decode cX12_span 118 = .ok (.iconst 1, 1) := by decide +kernel
theorem dX12_span_119 : decode cX12_span 119 = .ok (.iastore, 1) := by decide +kernel
theorem dX12_span_120 : decode cX12_span 120 = .ok (.aload_n 0, 1) := by decide +kernel
theorem dX12_span_121 : decode cX12_span 121 = .ok (.dup, 1) := by decide +kernel
theorem dX12_span_122 : decode cX12_span 122 = .ok (.getfield 85, 3) := by decide +kernel
theorem dX12_span_125 : decode cX12_span 125 = .ok (.iconst 1, 1) := by decide +kernel
theorem dX12_span_126 : decode cX12_span 126 = .ok (.iadd, 1) := by decide +kernel
theorem dX12_span_127 : decode cX12_span 127 = .ok (.putfield 85, 3) := by decide +kernel
theorem dX12_span_130 : decode cX12_span 130 = .ok (.aload_n 0, 1) := by decide +kernel
theorem dX12_span_131 : decode cX12_span 131 = .ok (.getfield 85, 3) := by decide +kernel
theorem dX12_span_134 : decode cX12_span 134 = .ok (.iconst 1, 1) := by decide +kernel
theorem dX12_span_135 : decode cX12_span 135 = .ok (.isub, 1) := by decide +kernel
theorem dX12_span_136 : decode cX12_span 136 = .ok (.ireturn, 1) := by decide +kernel
theorem dX12_heat_0 : decode cX12_heat 0 = .ok (.aload_n 0, 1) := by decide +kernel
theorem dX12_heat_1 : decode cX12_heat 1 = .ok (.iload_n 1, 1) := by decide +kernel
theorem dX12_heat_2 : decode cX12_heat 2 = .ok (.invokevirtual 123, 3) := by decide +kernel
theorem dX12_heat_5 : decode cX12_heat 5 = .ok (.ifCond .eq 17, 3) := by decide +kernel
theorem dX12_heat_8 : decode cX12_heat 8 = .ok (.iload_n 2, 1) := by decide +kernel
theorem dX12_heat_9 : decode cX12_heat 9 = .ok (.i2l, 1) := by decide +kernel
theorem dX12_heat_10 : decode cX12_heat 10 = .ok (.ldc2_w 126, 3) := by decide +kernel
theorem dX12_heat_13 : decode cX12_heat 13 = .ok (.ldc2_w 90, 3) := by decide +kernel
theorem dX12_heat_16 : decode cX12_heat 16 = .ok (.invokestatic 5, 3) := by decide +kernel
theorem dX12_heat_19 : decode cX12_heat 19 = .ok (.ifCond .ne 6, 3) := by decide +kernel
theorem dX12_heat_22 : decode cX12_heat 22 = .ok (.bipush (-100), 2) := by decide +kernel
theorem dX12_heat_24 : decode cX12_heat 24 = .ok (.ireturn, 1) := by decide +kernel
theorem dX12_heat_25 : decode cX12_heat 25 = .ok (.aload_n 0, 1) := by decide +kernel
theorem dX12_heat_26 : decode cX12_heat 26 = .ok (.getfield 117, 3) := by decide +kernel
theorem dX12_heat_29 : decode cX12_heat 29 = .ok (.iload_n 1, 1) := by decide +kernel
theorem dX12_heat_30 : decode cX12_heat 30 = .ok (.iaload, 1) := by decide +kernel
theorem dX12_heat_31 : decode cX12_heat 31 = .ok (.istore_n 3, 1) := by decide +kernel
theorem dX12_heat_32 : decode cX12_heat 32 = .ok (.aload_n 0, 1) := by decide +kernel
theorem dX12_heat_33 : decode cX12_heat 33 = .ok (.getfield 117, 3) := by decide +kernel
theorem dX12_heat_36 : decode cX12_heat 36 = .ok (.iload_n 1, 1) := by decide +kernel
theorem dX12_heat_37 : decode cX12_heat 37 = .ok (.iload_n 2, 1) := by decide +kernel
theorem dX12_heat_38 : decode cX12_heat 38 = .ok (.iastore, 1) := by decide +kernel
theorem dX12_heat_39 : decode cX12_heat 39 = .ok (.iload_n 3, 1) := by decide +kernel
theorem dX12_heat_40 : decode cX12_heat 40 = .ok (.ireturn, 1) := by decide +kernel
theorem dX12_sag_0 : decode cX12_sag 0 = .ok (.iconst 0, 1) := by decide +kernel
theorem dX12_sag_1 : decode cX12_sag 1 = .ok (.aload_n 0, 1) := by decide +kernel
theorem dX12_sag_2 : decode cX12_sag 2 = .ok (.getfield 114, 3) := by decide +kernel
theorem dX12_sag_5 : decode cX12_sag 5 = .ok (.iload_n 1, 1) := by decide +kernel
theorem dX12_sag_6 : decode cX12_sag 6 = .ok (.iaload, 1) := by decide +kernel
theorem dX12_sag_7 : decode cX12_sag 7 = .ok (.aload_n 0, 1) := by decide +kernel
theorem dX12_sag_8 : decode cX12_sag 8 = .ok (.getfield 114, 3) := by decide +kernel
theorem dX12_sag_11 : decode cX12_sag 11 = .ok (.iload_n 1, 1) := by decide +kernel
theorem dX12_sag_12 : decode cX12_sag 12 = .ok (.iaload, 1) := by decide +kernel
theorem dX12_sag_13 : decode cX12_sag 13 = .ok (.imul, 1) := by decide +kernel
theorem dX12_sag_14 : decode cX12_sag 14 = .ok (.sipush 10000, 3) := by decide +kernel
theorem dX12_sag_17 : decode cX12_sag 17 = .ok (.idiv, 1) := by decide +kernel
theorem dX12_sag_18 : decode cX12_sag 18 = .ok (.aload_n 0, 1) := by decide +kernel
theorem dX12_sag_19 : decode cX12_sag 19 = .ok (.getfield 114, 3) := by decide +kernel
theorem dX12_sag_22 : decode cX12_sag 22 = .ok (.iload_n 1, 1) := by decide +kernel
theorem dX12_sag_23 : decode cX12_sag 23 = .ok (.iaload, 1) := by decide +kernel
theorem dX12_sag_24 : decode cX12_sag 24 = .ok (.aload_n 0, 1) := by decide +kernel
theorem dX12_sag_25 : decode cX12_sag 25 = .ok (.getfield 117, 3) := by decide +kernel
theorem dX12_sag_28 : decode cX12_sag 28 = .ok (.iload_n 1, 1) := by decide +kernel
theorem dX12_sag_29 : decode cX12_sag 29 = .ok (.iaload, 1) := by decide +kernel
theorem dX12_sag_30 : decode cX12_sag 30 = .ok (.bipush 20, 2) := by decide +kernel
theorem dX12_sag_32 : decode cX12_sag 32 = .ok (.isub, 1) := by decide +kernel
theorem dX12_sag_33 : decode cX12_sag 33 = .ok (.imul, 1) := by decide +kernel
theorem dX12_sag_34 : decode cX12_sag 34 = .ok (.sipush 1000, 3) := by decide +kernel
theorem dX12_sag_37 : decode cX12_sag 37 = .ok (.idiv, 1) := by decide +kernel
theorem dX12_sag_38 : decode cX12_sag 38 = .ok (.iadd, 1) := by decide +kernel
theorem dX12_sag_39 : decode cX12_sag 39 = .ok (.invokestatic 128, 3) := by decide +kernel
theorem dX12_sag_42 : decode cX12_sag 42 = .ok (.ireturn, 1) := by decide +kernel
theorem dX12_low_0 : decode cX12_low 0 = .ok (.aload_n 0, 1) := by decide +kernel
theorem dX12_low_1 : decode cX12_low 1 = .ok (.getfield 95, 3) := by decide +kernel
theorem dX12_low_4 : decode cX12_low 4 = .ok (.aload_n 0, 1) := by decide +kernel
theorem dX12_low_5 : decode cX12_low 5 = .ok (.getfield 105, 3) := by decide +kernel
theorem dX12_low_8 : decode cX12_low 8 = .ok (.iload_n 1, 1) := by decide +kernel
theorem dX12_low_9 : decode cX12_low 9 = .ok (.iaload, 1) := by decide +kernel
theorem dX12_low_10 : decode cX12_low 10 = .ok (.iaload, 1) := by decide +kernel
theorem dX12_low_11 : decode cX12_low 11 = .ok (.aload_n 0, 1) := by decide +kernel
theorem dX12_low_12 : decode cX12_low 12 = .ok (.getfield 95, 3) := by decide +kernel
theorem dX12_low_15 : decode cX12_low 15 = .ok (.aload_n 0, 1) := by decide +kernel
theorem dX12_low_16 : decode cX12_low 16 = .ok (.getfield 108, 3) := by decide +kernel
theorem dX12_low_19 : decode cX12_low 19 = .ok (.iload_n 1, 1) := by decide +kernel
theorem dX12_low_20 : decode cX12_low 20 = .ok (.iaload, 1) := by decide +kernel
theorem dX12_low_21 : decode cX12_low 21 = .ok (.iaload, 1) := by decide +kernel
theorem dX12_low_22 : decode cX12_low 22 = .ok (.invokestatic 133, 3) := by decide +kernel
theorem dX12_low_25 : decode cX12_low 25 = .ok (.aload_n 0, 1) := by decide +kernel
theorem dX12_low_26 : decode cX12_low 26 = .ok (.iload_n 1, 1) := by decide +kernel
theorem dX12_low_27 : decode cX12_low 27 = .ok (.invokevirtual 136, 3) := by decide +kernel
theorem dX12_low_30 : decode cX12_low 30 = .ok (.isub, 1) := by decide +kernel
theorem dX12_low_31 : decode cX12_low 31 = .ok (.ireturn, 1) := by decide +kernel
theorem dX12_near_0 : decode cX12_near 0 = .ok (.aload_n 0, 1) := by decide +kernel
theorem dX12_near_1 : decode cX12_near 1 = .ok (.iload_n 1, 1) := by decide +kernel
theorem dX12_near_2 : decode cX12_near 2 = .ok (.invokevirtual 139, 3) := by decide +kernel
theorem dX12_near_5 : decode cX12_near 5 = .ok (.aload_n 0, 1) := by decide +kernel
theorem dX12_near_6 : decode cX12_near 6 = .ok (.getfield 53, 3) := by decide +kernel
theorem dX12_near_9 : decode cX12_near 9 = .ok (.aload_n 0, 1) := by decide +kernel
theorem dX12_near_10 : decode cX12_near 10 = .ok (.getfield 111, 3) := by decide +kernel
theorem dX12_near_13 : decode cX12_near 13 = .ok (.iload_n 1, 1) := by decide +kernel
theorem dX12_near_14 : decode cX12_near 14 = .ok (.iaload, 1) := by decide +kernel
theorem dX12_near_15 : decode cX12_near 15 = .ok (.iaload, 1) := by decide +kernel
theorem dX12_near_16 : decode cX12_near 16 = .ok (.aload_n 0, 1) := by decide +kernel
theorem dX12_near_17 : decode cX12_near 17 = .ok (.aload_n 0, 1) := by decide +kernel
theorem dX12_near_18 : decode cX12_near 18 = .ok (.getfield 111, 3) := by decide +kernel
theorem dX12_near_21 : decode cX12_near 21 = .ok (.iload_n 1, 1) := by decide +kernel
theorem dX12_near_22 : decode cX12_near 22 = .ok (.iaload, 1) := by decide +kernel
theorem dX12_near_23 : decode cX12_near 23 = .ok (.invokevirtual 78, 3) := by decide +kernel
theorem dX12_near_26 : decode cX12_near 26 = .ok (.invokestatic 128, 3) := by decide +kernel
theorem dX12_near_29 : decode cX12_near 29 = .ok (.isub, 1) := by decide +kernel
theorem dX12_near_30 : decode cX12_near 30 = .ok (.ireturn, 1) := by decide +kernel
theorem dX12_spanTold_0 : decode cX12_spanTold 0 = .ok (.aload_n 0, 1) := by decide +kernel
theorem dX12_spanTold_1 : decode cX12_spanTold 1 = .ok (.iload_n 1, 1) := by decide +kernel
theorem dX12_spanTold_2 : decode cX12_spanTold 2 = .ok (.invokevirtual 123, 3) := by decide +kernel
theorem dX12_spanTold_5 : decode cX12_spanTold 5 = .ok (.ifCond .ne 7, 3) := by decide +kernel
theorem dX12_spanTold_8 : decode cX12_spanTold 8 = .ok (.ldc2_w 142, 3) := by decide +kernel
theorem dX12_spanTold_11 : decode cX12_spanTold 11 = .ok (.lreturn, 1) := by decide +kernel
theorem dX12_spanTold_12 : decode cX12_spanTold 12 = .ok (.iload_n 2, 1) := by decide +kernel
theorem dX12_spanTold_13 : decode cX12_spanTold 13 = .ok (.tableswitch 115 0 7 #[47, 55, 63, 70, 77, 84, 100, 107], 47) := by decide +kernel
theorem dX12_spanTold_60 : decode cX12_spanTold 60 = .ok (.aload_n 0, 1) := by decide +kernel
theorem dX12_spanTold_61 : decode cX12_spanTold 61 = .ok (.getfield 111, 3) := by decide +kernel
theorem dX12_spanTold_64 : decode cX12_spanTold 64 = .ok (.iload_n 1, 1) := by decide +kernel
theorem dX12_spanTold_65 : decode cX12_spanTold 65 = .ok (.iaload, 1) := by decide +kernel
theorem dX12_spanTold_66 : decode cX12_spanTold 66 = .ok (.i2l, 1) := by decide +kernel
theorem dX12_spanTold_67 : decode cX12_spanTold 67 = .ok (.lreturn, 1) := by decide +kernel
theorem dX12_spanTold_68 : decode cX12_spanTold 68 = .ok (.aload_n 0, 1) := by decide +kernel
theorem dX12_spanTold_69 : decode cX12_spanTold 69 = .ok (.getfield 114, 3) := by decide +kernel
theorem dX12_spanTold_72 : decode cX12_spanTold 72 = .ok (.iload_n 1, 1) := by decide +kernel
theorem dX12_spanTold_73 : decode cX12_spanTold 73 = .ok (.iaload, 1) := by decide +kernel
theorem dX12_spanTold_74 : decode cX12_spanTold 74 = .ok (.i2l, 1) := by decide +kernel
theorem dX12_spanTold_75 : decode cX12_spanTold 75 = .ok (.lreturn, 1) := by decide +kernel
theorem dX12_spanTold_76 : decode cX12_spanTold 76 = .ok (.aload_n 0, 1) := by decide +kernel
theorem dX12_spanTold_77 : decode cX12_spanTold 77 = .ok (.iload_n 1, 1) := by decide +kernel
theorem dX12_spanTold_78 : decode cX12_spanTold 78 = .ok (.invokevirtual 136, 3) := by decide +kernel
theorem dX12_spanTold_81 : decode cX12_spanTold 81 = .ok (.i2l, 1) := by decide +kernel
theorem dX12_spanTold_82 : decode cX12_spanTold 82 = .ok (.lreturn, 1) := by decide +kernel
theorem dX12_spanTold_83 : decode cX12_spanTold 83 = .ok (.aload_n 0, 1) := by decide +kernel
theorem dX12_spanTold_84 : decode cX12_spanTold 84 = .ok (.iload_n 1, 1) := by decide +kernel
theorem dX12_spanTold_85 : decode cX12_spanTold 85 = .ok (.invokevirtual 139, 3) := by decide +kernel
theorem dX12_spanTold_88 : decode cX12_spanTold 88 = .ok (.i2l, 1) := by decide +kernel
theorem dX12_spanTold_89 : decode cX12_spanTold 89 = .ok (.lreturn, 1) := by decide +kernel
theorem dX12_spanTold_90 : decode cX12_spanTold 90 = .ok (.aload_n 0, 1) := by decide +kernel
theorem dX12_spanTold_91 : decode cX12_spanTold 91 = .ok (.iload_n 1, 1) := by decide +kernel
theorem dX12_spanTold_92 : decode cX12_spanTold 92 = .ok (.invokevirtual 144, 3) := by decide +kernel
theorem dX12_spanTold_95 : decode cX12_spanTold 95 = .ok (.i2l, 1) := by decide +kernel
theorem dX12_spanTold_96 : decode cX12_spanTold 96 = .ok (.lreturn, 1) := by decide +kernel
theorem dX12_spanTold_97 : decode cX12_spanTold 97 = .ok (.aload_n 0, 1) := by decide +kernel
theorem dX12_spanTold_98 : decode cX12_spanTold 98 = .ok (.iload_n 1, 1) := by decide +kernel
theorem dX12_spanTold_99 : decode cX12_spanTold 99 = .ok (.invokevirtual 144, 3) := by decide +kernel
theorem dX12_spanTold_102 : decode cX12_spanTold 102 = .ok (.bipush 6, 2) := by decide +kernel
theorem dX12_spanTold_104 : decode cX12_spanTold 104 = .ok (.if_icmp .ge 7, 3) := by decide +kernel
theorem dX12_spanTold_107 : decode cX12_spanTold 107 = .ok (.lconst 1, 1) := by decide +kernel
theorem dX12_spanTold_108 : decode cX12_spanTold 108 = .ok (.goto 4, 3) := by decide +kernel
theorem dX12_spanTold_111 : decode cX12_spanTold 111 = .ok (.lconst 0, 1) := by decide +kernel
theorem dX12_spanTold_112 : decode cX12_spanTold 112 = .ok (.lreturn, 1) := by decide +kernel
theorem dX12_spanTold_113 : decode cX12_spanTold 113 = .ok (.aload_n 0, 1) := by decide +kernel
theorem dX12_spanTold_114 : decode cX12_spanTold 114 = .ok (.iload_n 1, 1) := by decide +kernel
theorem dX12_spanTold_115 : decode cX12_spanTold 115 = .ok (.invokevirtual 147, 3) := by decide +kernel
theorem dX12_spanTold_118 : decode cX12_spanTold 118 = .ok (.i2l, 1) := by decide +kernel
theorem dX12_spanTold_119 : decode cX12_spanTold 119 = .ok (.lreturn, 1) := by decide +kernel
theorem dX12_spanTold_120 : decode cX12_spanTold 120 = .ok (.aload_n 0, 1) := by decide +kernel
theorem dX12_spanTold_121 : decode cX12_spanTold 121 = .ok (.getfield 120, 3) := by decide +kernel
theorem dX12_spanTold_124 : decode cX12_spanTold 124 = .ok (.iload_n 1, 1) := by decide +kernel
theorem dX12_spanTold_125 : decode cX12_spanTold 125 = .ok (.iaload, 1) := by decide +kernel
theorem dX12_spanTold_126 : decode cX12_spanTold 126 = .ok (.i2l, 1) := by decide +kernel
theorem dX12_spanTold_127 : decode cX12_spanTold 127 = .ok (.lreturn, 1) := by decide +kernel
theorem dX12_spanTold_128 : decode cX12_spanTold 128 = .ok (.ldc2_w 142, 3) := by decide +kernel
theorem dX12_spanTold_131 : decode cX12_spanTold 131 = .ok (.lreturn, 1) := by decide +kernel
theorem dX12_isLeave_0 : decode cX12_isLeave 0 = .ok (.iload_n 1, 1) := by decide +kernel
theorem dX12_isLeave_1 : decode cX12_isLeave 1 = .ok (.ifCond .lt 15, 3) := by decide +kernel
theorem dX12_isLeave_4 : decode cX12_isLeave 4 = .ok (.iload_n 1, 1) := by decide +kernel
theorem dX12_isLeave_5 : decode cX12_isLeave 5 = .ok (.aload_n 0, 1) := by decide +kernel
theorem dX12_isLeave_6 : decode cX12_isLeave 6 = .ok (.getfield 150, 3) := by decide +kernel
theorem dX12_isLeave_9 : decode cX12_isLeave 9 = .ok (.if_icmp .ge 7, 3) := by decide +kernel
theorem dX12_isLeave_12 : decode cX12_isLeave 12 = .ok (.iconst 1, 1) := by decide +kernel
theorem dX12_isLeave_13 : decode cX12_isLeave 13 = .ok (.goto 4, 3) := by decide +kernel
theorem dX12_isLeave_16 : decode cX12_isLeave 16 = .ok (.iconst 0, 1) := by decide +kernel
theorem dX12_isLeave_17 : decode cX12_isLeave 17 = .ok (.ireturn, 1) := by decide +kernel
theorem dX12_leave_0 : decode cX12_leave 0 = .ok (.iload_n 1, 1) := by decide +kernel
theorem dX12_leave_1 : decode cX12_leave 1 = .ok (.i2l, 1) := by decide +kernel
theorem dX12_leave_2 : decode cX12_leave 2 = .ok (.lconst 0, 1) := by decide +kernel
theorem dX12_leave_3 : decode cX12_leave 3 = .ok (.ldc2_w 153, 3) := by decide +kernel
theorem dX12_leave_6 : decode cX12_leave 6 = .ok (.invokestatic 5, 3) := by decide +kernel
theorem dX12_leave_9 : decode cX12_leave 9 = .ok (.ifCond .eq 70, 3) := by decide +kernel
theorem dX12_leave_12 : decode cX12_leave 12 = .ok (.aload_n 0, 1) := by decide +kernel
theorem dX12_leave_13 : decode cX12_leave 13 = .ok (.iload_n 2, 1) := by decide +kernel
theorem dX12_leave_14 : decode cX12_leave 14 = .ok (.invokevirtual 123, 3) := by decide +kernel
theorem dX12_leave_17 : decode cX12_leave 17 = .ok (.ifCond .eq 62, 3) := by decide +kernel
theorem dX12_leave_20 : decode cX12_leave 20 = .ok (.iload_n 3, 1) := by decide +kernel
theorem dX12_leave_21 : decode cX12_leave 21 = .ok (.i2l, 1) := by decide +kernel
theorem dX12_leave_22 : decode cX12_leave 22 = .ok (.lconst 0, 1) := by decide +kernel
theorem dX12_leave_23 : decode cX12_leave 23 = .ok (.ldc2_w 155, 3) := by decide +kernel
theorem dX12_leave_26 : decode cX12_leave 26 = .ok (.invokestatic 5, 3) := by decide +kernel
theorem dX12_leave_29 : decode cX12_leave 29 = .ok (.ifCond .eq 50, 3) := by decide +kernel
theorem dX12_leave_32 : decode cX12_leave 32 = .ok (.iload 4, 2) := by decide +kernel
theorem dX12_leave_34 : decode cX12_leave 34 = .ok (.i2l, 1) := by decide +kernel
theorem dX12_leave_35 : decode cX12_leave 35 = .ok (.aload_n 0, 1) := by decide +kernel
theorem dX12_leave_36 : decode cX12_leave 36 = .ok (.getfield 15, 3) := by decide +kernel
theorem dX12_leave_39 : decode cX12_leave 39 = .ok (.i2l, 1) := by decide +kernel
theorem dX12_leave_40 : decode cX12_leave 40 = .ok (.ldc2_w 3, 3) := by decide +kernel
theorem dX12_leave_43 : decode cX12_leave 43 = .ok (.invokestatic 5, 3) := by decide +kernel
theorem dX12_leave_46 : decode cX12_leave 46 = .ok (.ifCond .eq 33, 3) := by decide +kernel
theorem dX12_leave_49 : decode cX12_leave 49 = .ok (.iload 5, 2) := by decide +kernel
theorem dX12_leave_51 : decode cX12_leave 51 = .ok (.iconst (-1), 1) := by decide +kernel
theorem dX12_leave_52 : decode cX12_leave 52 = .ok (.if_icmp .eq 23, 3) := by decide +kernel
theorem dX12_leave_55 : decode cX12_leave 55 = .ok (.aload_n 0, 1) := by decide +kernel
theorem dX12_leave_56 : decode cX12_leave 56 = .ok (.iload 5, 2) := by decide +kernel
theorem dX12_leave_58 : decode cX12_leave 58 = .ok (.invokevirtual 157, 3) := by decide +kernel
theorem dX12_leave_61 : decode cX12_leave 61 = .ok (.ifCond .eq 18, 3) := by decide +kernel
theorem dX12_leave_64 : decode cX12_leave 64 = .ok (.aload_n 0, 1) := by decide +kernel
theorem dX12_leave_65 : decode cX12_leave 65 = .ok (.getfield 160, 3) := by decide +kernel
theorem dX12_leave_68 : decode cX12_leave 68 = .ok (.iload 5, 2) := by decide +kernel
theorem dX12_leave_70 : decode cX12_leave 70 = .ok (.iaload, 1) := by decide +kernel
theorem dX12_leave_71 : decode cX12_leave 71 = .ok (.iload_n 2, 1) := by decide +kernel
theorem dX12_leave_72 : decode cX12_leave 72 = .ok (.if_icmp .ne 7, 3) := by decide +kernel
theorem dX12_leave_75 : decode cX12_leave 75 = .ok (.iconst 1, 1) := by decide +kernel
theorem dX12_leave_76 : decode cX12_leave 76 = .ok (.goto 4, 3) := by decide +kernel
theorem dX12_leave_79 : decode cX12_leave 79 = .ok (.iconst 0, 1) := by decide +kernel
theorem dX12_leave_80 : decode cX12_leave 80 = .ok (.istore 6, 2) := by decide +kernel
theorem dX12_leave_82 : decode cX12_leave 82 = .ok (.iload 6, 2) := by decide +kernel
theorem dX12_leave_84 : decode cX12_leave 84 = .ok (.ifCond .ne 6, 3) := by decide +kernel
theorem dX12_leave_87 : decode cX12_leave 87 = .ok (.bipush (-2), 2) := by decide +kernel
theorem dX12_leave_89 : decode cX12_leave 89 = .ok (.ireturn, 1) := by decide +kernel
theorem dX12_leave_90 : decode cX12_leave 90 = .ok (.aload_n 0, 1) := by decide +kernel
theorem dX12_leave_91 : decode cX12_leave 91 = .ok (.getfield 150, 3) := by decide +kernel
theorem dX12_leave_94 : decode cX12_leave 94 = .ok (.bipush 24, 2) := by decide +kernel
theorem dX12_leave_96 : decode cX12_leave 96 = .ok (.if_icmp .ne 6, 3) := by decide +kernel
theorem dX12_leave_99 : decode cX12_leave 99 = .ok (.bipush (-4), 2) := by decide +kernel
theorem dX12_leave_101 : decode cX12_leave 101 = .ok (.ireturn, 1) := by decide +kernel
theorem dX12_leave_102 : decode cX12_leave 102 = .ok (.aload_n 0, 1) := by decide +kernel
theorem dX12_leave_103 : decode cX12_leave 103 = .ok (.getfield 163, 3) := by decide +kernel
theorem dX12_leave_106 : decode cX12_leave 106 = .ok (.aload_n 0, 1) := by decide +kernel
theorem dX12_leave_107 : decode cX12_leave 107 = .ok (.getfield 150, 3) := by decide +kernel
theorem dX12_leave_110 : decode cX12_leave 110 = .ok (.iload_n 1, 1) := by decide +kernel
theorem dX12_leave_111 : decode cX12_leave 111 = .ok (.iastore, 1) := by decide +kernel
theorem dX12_leave_112 : decode cX12_leave 112 = .ok (.aload_n 0, 1) := by decide +kernel
theorem dX12_leave_113 : decode cX12_leave 113 = .ok (.getfield 160, 3) := by decide +kernel
theorem dX12_leave_116 : decode cX12_leave 116 = .ok (.aload_n 0, 1) := by decide +kernel
theorem dX12_leave_117 : decode cX12_leave 117 = .ok (.getfield 150, 3) := by decide +kernel
theorem dX12_leave_120 : decode cX12_leave 120 = .ok (.iload_n 2, 1) := by decide +kernel
theorem dX12_leave_121 : decode cX12_leave 121 = .ok (.iastore, 1) := by decide +kernel
theorem dX12_leave_122 : decode cX12_leave 122 = .ok (.aload_n 0, 1) := by decide +kernel
theorem dX12_leave_123 : decode cX12_leave 123 = .ok (.getfield 166, 3) := by decide +kernel
theorem dX12_leave_126 : decode cX12_leave 126 = .ok (.aload_n 0, 1) := by decide +kernel
theorem dX12_leave_127 : decode cX12_leave 127 = .ok (.getfield 150, 3) := by decide +kernel
theorem dX12_leave_130 : decode cX12_leave 130 = .ok (.iload_n 3, 1) := by decide +kernel
theorem dX12_leave_131 : decode cX12_leave 131 = .ok (.iastore, 1) := by decide +kernel
theorem dX12_leave_132 : decode cX12_leave 132 = .ok (.aload_n 0, 1) := by decide +kernel
theorem dX12_leave_133 : decode cX12_leave 133 = .ok (.getfield 169, 3) := by decide +kernel
theorem dX12_leave_136 : decode cX12_leave 136 = .ok (.aload_n 0, 1) := by decide +kernel
theorem dX12_leave_137 : decode cX12_leave 137 = .ok (.getfield 150, 3) := by decide +kernel
theorem dX12_leave_140 : decode cX12_leave 140 = .ok (.iload 4, 2) := by decide +kernel
theorem dX12_leave_142 : decode cX12_leave 142 = .ok (.iastore, 1) := by decide +kernel
theorem dX12_leave_143 : decode cX12_leave 143 = .ok (.aload_n 0, 1) := by decide +kernel
theorem dX12_leave_144 : decode cX12_leave 144 = .ok (.getfield 172, 3) := by decide +kernel
theorem dX12_leave_147 : decode cX12_leave 147 = .ok (.aload_n 0, 1) := by decide +kernel
theorem dX12_leave_148 : decode cX12_leave 148 = .ok (.getfield 150, 3) := by decide +kernel
theorem dX12_leave_151 : decode cX12_leave 151 = .ok (.iload 5, 2) := by decide +kernel
theorem dX12_leave_153 : decode cX12_leave 153 = .ok (.iastore, 1) := by decide +kernel
theorem dX12_leave_154 : decode cX12_leave 154 = .ok (.aload_n 0, 1) := by decide +kernel
theorem dX12_leave_155 : decode cX12_leave 155 = .ok (.getfield 175, 3) := by decide +kernel
theorem dX12_leave_158 : decode cX12_leave 158 = .ok (.aload_n 0, 1) := by decide +kernel
theorem dX12_leave_159 : decode cX12_leave 159 = .ok (.getfield 150, 3) := by decide +kernel
theorem dX12_leave_162 : decode cX12_leave 162 = .ok (.iconst (-1), 1) := by decide +kernel
theorem dX12_leave_163 : decode cX12_leave 163 = .ok (.iastore, 1) := by decide +kernel
theorem dX12_leave_164 : decode cX12_leave 164 = .ok (.aload_n 0, 1) := by decide +kernel
theorem dX12_leave_165 : decode cX12_leave 165 = .ok (.dup, 1) := by decide +kernel
theorem dX12_leave_166 : decode cX12_leave 166 = .ok (.getfield 150, 3) := by decide +kernel
theorem dX12_leave_169 : decode cX12_leave 169 = .ok (.iconst 1, 1) := by decide +kernel
theorem dX12_leave_170 : decode cX12_leave 170 = .ok (.iadd, 1) := by decide +kernel
theorem dX12_leave_171 : decode cX12_leave 171 = .ok (.putfield 150, 3) := by decide +kernel
theorem dX12_leave_174 : decode cX12_leave 174 = .ok (.aload_n 0, 1) := by decide +kernel
theorem dX12_leave_175 : decode cX12_leave 175 = .ok (.getfield 150, 3) := by decide +kernel
theorem dX12_leave_178 : decode cX12_leave 178 = .ok (.iconst 1, 1) := by decide +kernel
theorem dX12_leave_179 : decode cX12_leave 179 = .ok (.isub, 1) := by decide +kernel
theorem dX12_leave_180 : decode cX12_leave 180 = .ok (.ireturn, 1) := by decide +kernel
theorem dX12_lastsOf_0 : decode cX12_lastsOf 0 = .ok (.aload_n 0, 1) := by decide +kernel
theorem dX12_lastsOf_1 : decode cX12_lastsOf 1 = .ok (.getfield 178, 3) := by decide +kernel
theorem dX12_lastsOf_4 : decode cX12_lastsOf 4 = .ok (.aload_n 0, 1) := by decide +kernel
theorem dX12_lastsOf_5 : decode cX12_lastsOf 5 = .ok (.getfield 163, 3) := by decide +kernel
theorem dX12_lastsOf_8 : decode cX12_lastsOf 8 = .ok (.iload_n 1, 1) := by decide +kernel
theorem dX12_lastsOf_9 : decode cX12_lastsOf 9 = .ok (.iaload, 1) := by decide +kernel
theorem dX12_lastsOf_10 : decode cX12_lastsOf 10 = .ok (.iaload, 1) := by decide +kernel
theorem dX12_lastsOf_11 : decode cX12_lastsOf 11 = .ok (.iconst 1, 1) := by decide +kernel
theorem dX12_lastsOf_12 : decode cX12_lastsOf 12 = .ok (.aload_n 0, 1) := by decide +kernel
theorem dX12_lastsOf_13 : decode cX12_lastsOf 13 = .ok (.getfield 181, 3) := by decide +kernel
theorem dX12_lastsOf_16 : decode cX12_lastsOf 16 = .ok (.iload_n 1, 1) := by decide +kernel
theorem dX12_lastsOf_17 : decode cX12_lastsOf 17 = .ok (.iaload, 1) := by decide +kernel
theorem dX12_lastsOf_18 : decode cX12_lastsOf 18 = .ok (.iadd, 1) := by decide +kernel
theorem dX12_lastsOf_19 : decode cX12_lastsOf 19 = .ok (.imul, 1) := by decide +kernel
theorem dX12_lastsOf_20 : decode cX12_lastsOf 20 = .ok (.ireturn, 1) := by decide +kernel
theorem dX12_yearlyOf_0 : decode cX12_yearlyOf 0 = .ok (.aload_n 0, 1) := by decide +kernel
theorem dX12_yearlyOf_1 : decode cX12_yearlyOf 1 = .ok (.getfield 166, 3) := by decide +kernel
theorem dX12_yearlyOf_4 : decode cX12_yearlyOf 4 = .ok (.iload_n 1, 1) := by decide +kernel
theorem dX12_yearlyOf_5 : decode cX12_yearlyOf 5 = .ok (.iaload, 1) := by decide +kernel
theorem dX12_yearlyOf_6 : decode cX12_yearlyOf 6 = .ok (.bipush 15, 2) := by decide +kernel
theorem dX12_yearlyOf_8 : decode cX12_yearlyOf 8 = .ok (.idiv, 1) := by decide +kernel
theorem dX12_yearlyOf_9 : decode cX12_yearlyOf 9 = .ok (.istore_n 2, 1) := by decide +kernel
theorem dX12_yearlyOf_10 : decode cX12_yearlyOf 10 = .ok (.aload_n 0, 1) := by decide +kernel
theorem dX12_yearlyOf_11 : decode cX12_yearlyOf 11 = .ok (.getfield 163, 3) := by decide +kernel
theorem dX12_yearlyOf_14 : decode cX12_yearlyOf 14 = .ok (.iload_n 1, 1) := by decide +kernel
theorem dX12_yearlyOf_15 : decode cX12_yearlyOf 15 = .ok (.iaload, 1) := by decide +kernel
theorem dX12_yearlyOf_16 : decode cX12_yearlyOf 16 = .ok (.tableswitch 56 0 4 #[36, 38, 56, 40, 50], 36) := by decide +kernel
theorem dX12_yearlyOf_52 : decode cX12_yearlyOf 52 = .ok (.iload_n 2, 1) := by decide +kernel
theorem dX12_yearlyOf_53 : decode cX12_yearlyOf 53 = .ok (.ireturn, 1) := by decide +kernel
theorem dX12_yearlyOf_54 : decode cX12_yearlyOf 54 = .ok (.iconst 0, 1) := by decide +kernel
theorem dX12_yearlyOf_55 : decode cX12_yearlyOf 55 = .ok (.ireturn, 1) := by decide +kernel
theorem dX12_yearlyOf_56 : decode cX12_yearlyOf 56 = .ok (.aload_n 0, 1) := by decide +kernel
theorem dX12_yearlyOf_57 : decode cX12_yearlyOf 57 = .ok (.getfield 166, 3) := by decide +kernel
theorem dX12_yearlyOf_60 : decode cX12_yearlyOf 60 = .ok (.iload_n 1, 1) := by decide +kernel
theorem dX12_yearlyOf_61 : decode cX12_yearlyOf 61 = .ok (.iaload, 1) := by decide +kernel
theorem dX12_yearlyOf_62 : decode cX12_yearlyOf 62 = .ok (.bipush 100, 2) := by decide +kernel
theorem dX12_yearlyOf_64 : decode cX12_yearlyOf 64 = .ok (.idiv, 1) := by decide +kernel
theorem dX12_yearlyOf_65 : decode cX12_yearlyOf 65 = .ok (.ireturn, 1) := by decide +kernel
theorem dX12_yearlyOf_66 : decode cX12_yearlyOf 66 = .ok (.iconst 2, 1) := by decide +kernel
theorem dX12_yearlyOf_67 : decode cX12_yearlyOf 67 = .ok (.iload_n 2, 1) := by decide +kernel
theorem dX12_yearlyOf_68 : decode cX12_yearlyOf 68 = .ok (.imul, 1) := by decide +kernel
theorem dX12_yearlyOf_69 : decode cX12_yearlyOf 69 = .ok (.iconst 2, 1) := by decide +kernel
theorem dX12_yearlyOf_70 : decode cX12_yearlyOf 70 = .ok (.idiv, 1) := by decide +kernel
theorem dX12_yearlyOf_71 : decode cX12_yearlyOf 71 = .ok (.ireturn, 1) := by decide +kernel
theorem dX12_yearlyOf_72 : decode cX12_yearlyOf 72 = .ok (.iconst 2, 1) := by decide +kernel
theorem dX12_yearlyOf_73 : decode cX12_yearlyOf 73 = .ok (.iload_n 2, 1) := by decide +kernel
theorem dX12_yearlyOf_74 : decode cX12_yearlyOf 74 = .ok (.imul, 1) := by decide +kernel
theorem dX12_yearlyOf_75 : decode cX12_yearlyOf 75 = .ok (.ireturn, 1) := by decide +kernel
theorem dX12_stands_0 : decode cX12_stands 0 = .ok (.aload_n 0, 1) := by decide +kernel
theorem dX12_stands_1 : decode cX12_stands 1 = .ok (.getfield 111, 3) := by decide +kernel
theorem dX12_stands_4 : decode cX12_stands 4 = .ok (.aload_n 0, 1) := by decide +kernel
theorem dX12_stands_5 : decode cX12_stands 5 = .ok (.getfield 160, 3) := by decide +kernel
theorem dX12_stands_8 : decode cX12_stands 8 = .ok (.iload_n 1, 1) := by decide +kernel
theorem dX12_stands_9 : decode cX12_stands 9 = .ok (.iaload, 1) := by decide +kernel
theorem dX12_stands_10 : decode cX12_stands 10 = .ok (.iaload, 1) := by decide +kernel
theorem dX12_stands_11 : decode cX12_stands 11 = .ok (.istore_n 3, 1) := by decide +kernel
theorem dX12_stands_12 : decode cX12_stands 12 = .ok (.iload_n 2, 1) := by decide +kernel
theorem dX12_stands_13 : decode cX12_stands 13 = .ok (.aload_n 0, 1) := by decide +kernel
theorem dX12_stands_14 : decode cX12_stands 14 = .ok (.getfield 169, 3) := by decide +kernel
theorem dX12_stands_17 : decode cX12_stands 17 = .ok (.iload_n 1, 1) := by decide +kernel
theorem dX12_stands_18 : decode cX12_stands 18 = .ok (.iaload, 1) := by decide +kernel
theorem dX12_stands_19 : decode cX12_stands 19 = .ok (.if_icmp .lt 23, 3) := by decide +kernel
theorem dX12_stands_22 : decode cX12_stands 22 = .ok (.iload_n 2, 1) := by decide +kernel
theorem dX12_stands_23 : decode cX12_stands 23 = .ok (.aload_n 0, 1) := by decide +kernel
theorem dX12_stands_24 : decode cX12_stands 24 = .ok (.getfield 169, 3) := by decide +kernel
theorem dX12_stands_27 : decode cX12_stands 27 = .ok (.iload_n 1, 1) := by decide +kernel
theorem dX12_stands_28 : decode cX12_stands 28 = .ok (.iaload, 1) := by decide +kernel
theorem dX12_stands_29 : decode cX12_stands 29 = .ok (.aload_n 0, 1) := by decide +kernel
theorem dX12_stands_30 : decode cX12_stands 30 = .ok (.iload_n 1, 1) := by decide +kernel
theorem dX12_stands_31 : decode cX12_stands 31 = .ok (.invokevirtual 184, 3) := by decide +kernel
theorem dX12_stands_34 : decode cX12_stands 34 = .ok (.iadd, 1) := by decide +kernel
theorem dX12_stands_35 : decode cX12_stands 35 = .ok (.if_icmp .ge 7, 3) := by decide +kernel
theorem dX12_stands_38 : decode cX12_stands 38 = .ok (.iconst 1, 1) := by decide +kernel
theorem dX12_stands_39 : decode cX12_stands 39 = .ok (.goto 4, 3) := by decide +kernel
theorem dX12_stands_42 : decode cX12_stands 42 = .ok (.iconst 0, 1) := by decide +kernel
theorem dX12_stands_43 : decode cX12_stands 43 = .ok (.istore 4, 2) := by decide +kernel
theorem dX12_stands_45 : decode cX12_stands 45 = .ok (.aload_n 0, 1) := by decide +kernel
theorem dX12_stands_46 : decode cX12_stands 46 = .ok (.getfield 187, 3) := by decide +kernel
theorem dX12_stands_49 : decode cX12_stands 49 = .ok (.aload_n 0, 1) := by decide +kernel
theorem dX12_stands_50 : decode cX12_stands 50 = .ok (.getfield 163, 3) := by decide +kernel
theorem dX12_stands_53 : decode cX12_stands 53 = .ok (.iload_n 1, 1) := by decide +kernel
theorem dX12_stands_54 : decode cX12_stands 54 = .ok (.iaload, 1) := by decide +kernel
theorem dX12_stands_55 : decode cX12_stands 55 = .ok (.iaload, 1) := by decide +kernel
theorem dX12_stands_56 : decode cX12_stands 56 = .ok (.iconst 1, 1) := by decide +kernel
theorem dX12_stands_57 : decode cX12_stands 57 = .ok (.if_icmp .eq 23, 3) := by decide +kernel
theorem dX12_stands_60 : decode cX12_stands 60 = .ok (.aload_n 0, 1) := by decide +kernel
theorem dX12_stands_61 : decode cX12_stands 61 = .ok (.iload_n 3, 1) := by decide +kernel
theorem dX12_stands_62 : decode cX12_stands 62 = .ok (.iload_n 2, 1) := by decide +kernel
theorem dX12_stands_63 : decode cX12_stands 63 = .ok (.invokevirtual 42, 3) := by decide +kernel
theorem dX12_stands_66 : decode cX12_stands 66 = .ok (.aload_n 0, 1) := by decide +kernel
theorem dX12_stands_67 : decode cX12_stands 67 = .ok (.iload_n 3, 1) := by decide +kernel
theorem dX12_stands_68 : decode cX12_stands 68 = .ok (.aload_n 0, 1) := by decide +kernel
theorem dX12_stands_69 : decode cX12_stands 69 = .ok (.getfield 169, 3) := by decide +kernel
theorem dX12_stands_72 : decode cX12_stands 72 = .ok (.iload_n 1, 1) := by decide +kernel
theorem dX12_stands_73 : decode cX12_stands 73 = .ok (.iaload, 1) := by decide +kernel
theorem dX12_stands_74 : decode cX12_stands 74 = .ok (.invokevirtual 42, 3) := by decide +kernel
theorem dX12_stands_77 : decode cX12_stands 77 = .ok (.if_icmp .ne 7, 3) := by decide +kernel
theorem dX12_stands_80 : decode cX12_stands 80 = .ok (.iconst 1, 1) := by decide +kernel
theorem dX12_stands_81 : decode cX12_stands 81 = .ok (.goto 4, 3) := by decide +kernel
theorem dX12_stands_84 : decode cX12_stands 84 = .ok (.iconst 0, 1) := by decide +kernel
theorem dX12_stands_85 : decode cX12_stands 85 = .ok (.istore 5, 2) := by decide +kernel
theorem dX12_stands_87 : decode cX12_stands 87 = .ok (.iload 4, 2) := by decide +kernel
theorem dX12_stands_89 : decode cX12_stands 89 = .ok (.ifCond .eq 32, 3) := by decide +kernel
theorem dX12_stands_92 : decode cX12_stands 92 = .ok (.iload 5, 2) := by decide +kernel
theorem dX12_stands_94 : decode cX12_stands 94 = .ok (.ifCond .eq 27, 3) := by decide +kernel
theorem dX12_stands_97 : decode cX12_stands 97 = .ok (.aload_n 0, 1) := by decide +kernel
theorem dX12_stands_98 : decode cX12_stands 98 = .ok (.getfield 175, 3) := by decide +kernel
theorem dX12_stands_101 : decode cX12_stands 101 = .ok (.iload_n 1, 1) := by decide +kernel
theorem dX12_stands_102 : decode cX12_stands 102 = .ok (.iaload, 1) := by decide +kernel
theorem dX12_stands_103 : decode cX12_stands 103 = .ok (.iconst (-1), 1) := by decide +kernel
theorem dX12_stands_104 : decode cX12_stands 104 = .ok (.if_icmp .eq 13, 3) := by decide +kernel
theorem dX12_stands_107 : decode cX12_stands 107 = .ok (.iload_n 2, 1) := by decide +kernel
theorem dX12_stands_108 : decode cX12_stands 108 = .ok (.aload_n 0, 1) := by decide +kernel
theorem dX12_stands_109 : decode cX12_stands 109 = .ok (.getfield 175, 3) := by decide +kernel
theorem dX12_stands_112 : decode cX12_stands 112 = .ok (.iload_n 1, 1) := by decide +kernel
theorem dX12_stands_113 : decode cX12_stands 113 = .ok (.iaload, 1) := by decide +kernel
theorem dX12_stands_114 : decode cX12_stands 114 = .ok (.if_icmp .ge 7, 3) := by decide +kernel
theorem dX12_stands_117 : decode cX12_stands 117 = .ok (.iconst 1, 1) := by decide +kernel
theorem dX12_stands_118 : decode cX12_stands 118 = .ok (.goto 4, 3) := by decide +kernel
theorem dX12_stands_121 : decode cX12_stands 121 = .ok (.iconst 0, 1) := by decide +kernel
theorem dX12_stands_122 : decode cX12_stands 122 = .ok (.ireturn, 1) := by decide +kernel
theorem dX12_isInForce_0 : decode cX12_isInForce 0 = .ok (.iload_n 1, 1) := by decide +kernel
theorem dX12_isInForce_1 : decode cX12_isInForce 1 = .ok (.istore_n 3, 1) := by decide +kernel
theorem dX12_isInForce_2 : decode cX12_isInForce 2 = .ok (.iload_n 3, 1) := by decide +kernel
theorem dX12_isInForce_3 : decode cX12_isInForce 3 = .ok (.iconst (-1), 1) := by decide +kernel
theorem dX12_isInForce_4 : decode cX12_isInForce 4 = .ok (.if_icmp .eq 24, 3) := by decide +kernel
theorem dX12_isInForce_7 : decode cX12_isInForce 7 = .ok (.aload_n 0, 1) := by decide +kernel
theorem dX12_isInForce_8 : decode cX12_isInForce 8 = .ok (.iload_n 3, 1) := by decide +kernel
theorem dX12_isInForce_9 : decode cX12_isInForce 9 = .ok (.iload_n 2, 1) := by decide +kernel
theorem dX12_isInForce_10 : decode cX12_isInForce 10 = .ok (.invokevirtual 190, 3) := by decide +kernel
theorem dX12_isInForce_13 : decode cX12_isInForce 13 = .ok (.ifCond .ne 5, 3) := by decide +kernel
theorem dX12_isInForce_16 : decode cX12_isInForce 16 = .ok (.iconst 0, 1) := by decide +kernel
theorem dX12_isInForce_17 : decode cX12_isInForce 17 = .ok (.ireturn, 1) := by decide +kernel
theorem dX12_isInForce_18 : decode cX12_isInForce 18 = .ok (.aload_n 0, 1) := by decide +kernel
theorem dX12_isInForce_19 : decode cX12_isInForce 19 = .ok (.getfield 172, 3) := by decide +kernel
theorem dX12_isInForce_22 : decode cX12_isInForce 22 = .ok (.iload_n 3, 1) := by decide +kernel
theorem dX12_isInForce_23 : decode cX12_isInForce 23 = .ok (.iaload, 1) := by decide +kernel
theorem dX12_isInForce_24 : decode cX12_isInForce 24 = .ok (.istore_n 3, 1) := by decide +kernel
theorem dX12_isInForce_25 : decode cX12_isInForce 25 = .ok (.goto (-23), 3) := by decide +kernel
theorem dX12_isInForce_28 : decode cX12_isInForce 28 = .ok (.iconst 1, 1) := by decide +kernel
theorem dX12_isInForce_29 : decode cX12_isInForce 29 = .ok (.ireturn, 1) := by decide +kernel
theorem dX12_leaveTold_0 : decode cX12_leaveTold 0 = .ok (.aload_n 0, 1) := by decide +kernel
theorem dX12_leaveTold_1 : decode cX12_leaveTold 1 = .ok (.iload_n 1, 1) := by decide +kernel
theorem dX12_leaveTold_2 : decode cX12_leaveTold 2 = .ok (.invokevirtual 157, 3) := by decide +kernel
theorem dX12_leaveTold_5 : decode cX12_leaveTold 5 = .ok (.ifCond .ne 6, 3) := by decide +kernel
theorem dX12_leaveTold_8 : decode cX12_leaveTold 8 = .ok (.bipush (-2), 2) := by decide +kernel
theorem dX12_leaveTold_10 : decode cX12_leaveTold 10 = .ok (.ireturn, 1) := by decide +kernel
theorem dX12_leaveTold_11 : decode cX12_leaveTold 11 = .ok (.iload_n 2, 1) := by decide +kernel
theorem dX12_leaveTold_12 : decode cX12_leaveTold 12 = .ok (.tableswitch 137 0 8 #[52, 59, 66, 73, 79, 91, 97, 115, 122], 52) := by decide +kernel
theorem dX12_leaveTold_64 : decode cX12_leaveTold 64 = .ok (.aload_n 0, 1) := by decide +kernel
theorem dX12_leaveTold_65 : decode cX12_leaveTold 65 = .ok (.getfield 163, 3) := by decide +kernel
theorem dX12_leaveTold_68 : decode cX12_leaveTold 68 = .ok (.iload_n 1, 1) := by decide +kernel
theorem dX12_leaveTold_69 : decode cX12_leaveTold 69 = .ok (.iaload, 1) := by decide +kernel
theorem dX12_leaveTold_70 : decode cX12_leaveTold 70 = .ok (.ireturn, 1) := by decide +kernel
theorem dX12_leaveTold_71 : decode cX12_leaveTold 71 = .ok (.aload_n 0, 1) := by decide +kernel
theorem dX12_leaveTold_72 : decode cX12_leaveTold 72 = .ok (.getfield 160, 3) := by decide +kernel
theorem dX12_leaveTold_75 : decode cX12_leaveTold 75 = .ok (.iload_n 1, 1) := by decide +kernel
theorem dX12_leaveTold_76 : decode cX12_leaveTold 76 = .ok (.iaload, 1) := by decide +kernel
theorem dX12_leaveTold_77 : decode cX12_leaveTold 77 = .ok (.ireturn, 1) := by decide +kernel
theorem dX12_leaveTold_78 : decode cX12_leaveTold 78 = .ok (.aload_n 0, 1) := by decide +kernel
theorem dX12_leaveTold_79 : decode cX12_leaveTold 79 = .ok (.getfield 169, 3) := by decide +kernel
theorem dX12_leaveTold_82 : decode cX12_leaveTold 82 = .ok (.iload_n 1, 1) := by decide +kernel
theorem dX12_leaveTold_83 : decode cX12_leaveTold 83 = .ok (.iaload, 1) := by decide +kernel
theorem dX12_leaveTold_84 : decode cX12_leaveTold 84 = .ok (.ireturn, 1) := by decide +kernel
theorem dX12_leaveTold_85 : decode cX12_leaveTold 85 = .ok (.aload_n 0, 1) := by decide +kernel
theorem dX12_leaveTold_86 : decode cX12_leaveTold 86 = .ok (.iload_n 1, 1) := by decide +kernel
theorem dX12_leaveTold_87 : decode cX12_leaveTold 87 = .ok (.invokevirtual 184, 3) := by decide +kernel
theorem dX12_leaveTold_90 : decode cX12_leaveTold 90 = .ok (.ireturn, 1) := by decide +kernel
theorem dX12_leaveTold_91 : decode cX12_leaveTold 91 = .ok (.aload_n 0, 1) := by decide +kernel
theorem dX12_leaveTold_92 : decode cX12_leaveTold 92 = .ok (.getfield 187, 3) := by decide +kernel
theorem dX12_leaveTold_95 : decode cX12_leaveTold 95 = .ok (.aload_n 0, 1) := by decide +kernel
theorem dX12_leaveTold_96 : decode cX12_leaveTold 96 = .ok (.getfield 163, 3) := by decide +kernel
theorem dX12_leaveTold_99 : decode cX12_leaveTold 99 = .ok (.iload_n 1, 1) := by decide +kernel
theorem dX12_leaveTold_100 : decode cX12_leaveTold 100 = .ok (.iaload, 1) := by decide +kernel
theorem dX12_leaveTold_101 : decode cX12_leaveTold 101 = .ok (.iaload, 1) := by decide +kernel
theorem dX12_leaveTold_102 : decode cX12_leaveTold 102 = .ok (.ireturn, 1) := by decide +kernel
theorem dX12_leaveTold_103 : decode cX12_leaveTold 103 = .ok (.aload_n 0, 1) := by decide +kernel
theorem dX12_leaveTold_104 : decode cX12_leaveTold 104 = .ok (.iload_n 1, 1) := by decide +kernel
theorem dX12_leaveTold_105 : decode cX12_leaveTold 105 = .ok (.invokevirtual 194, 3) := by decide +kernel
theorem dX12_leaveTold_108 : decode cX12_leaveTold 108 = .ok (.ireturn, 1) := by decide +kernel
theorem dX12_leaveTold_109 : decode cX12_leaveTold 109 = .ok (.aload_n 0, 1) := by decide +kernel
theorem dX12_leaveTold_110 : decode cX12_leaveTold 110 = .ok (.iload_n 1, 1) := by decide +kernel
theorem dX12_leaveTold_111 : decode cX12_leaveTold 111 = .ok (.aload_n 0, 1) := by decide +kernel
theorem dX12_leaveTold_112 : decode cX12_leaveTold 112 = .ok (.getfield 15, 3) := by decide +kernel
theorem dX12_leaveTold_115 : decode cX12_leaveTold 115 = .ok (.invokevirtual 197, 3) := by decide +kernel
theorem dX12_leaveTold_118 : decode cX12_leaveTold 118 = .ok (.ifCond .eq 7, 3) := by decide +kernel
theorem dX12_leaveTold_121 : decode cX12_leaveTold 121 = .ok (.iconst 1, 1) := by decide +kernel
theorem dX12_leaveTold_122 : decode cX12_leaveTold 122 = .ok (.goto 4, 3) := by decide +kernel
theorem dX12_leaveTold_125 : decode cX12_leaveTold 125 = .ok (.iconst 0, 1) := by decide +kernel
theorem dX12_leaveTold_126 : decode cX12_leaveTold 126 = .ok (.ireturn, 1) := by decide +kernel
theorem dX12_leaveTold_127 : decode cX12_leaveTold 127 = .ok (.aload_n 0, 1) := by decide +kernel
theorem dX12_leaveTold_128 : decode cX12_leaveTold 128 = .ok (.getfield 175, 3) := by decide +kernel
theorem dX12_leaveTold_131 : decode cX12_leaveTold 131 = .ok (.iload_n 1, 1) := by decide +kernel
theorem dX12_leaveTold_132 : decode cX12_leaveTold 132 = .ok (.iaload, 1) := by decide +kernel
theorem dX12_leaveTold_133 : decode cX12_leaveTold 133 = .ok (.ireturn, 1) := by decide +kernel
theorem dX12_leaveTold_134 : decode cX12_leaveTold 134 = .ok (.aload_n 0, 1) := by decide +kernel
theorem dX12_leaveTold_135 : decode cX12_leaveTold 135 = .ok (.getfield 200, 3) := by decide +kernel
theorem dX12_leaveTold_138 : decode cX12_leaveTold 138 = .ok (.iload_n 1, 1) := by decide +kernel
theorem dX12_leaveTold_139 : decode cX12_leaveTold 139 = .ok (.baload, 1) := by decide +kernel
theorem dX12_leaveTold_140 : decode cX12_leaveTold 140 = .ok (.ifCond .eq 7, 3) := by decide +kernel
theorem dX12_leaveTold_143 : decode cX12_leaveTold 143 = .ok (.iconst 1, 1) := by decide +kernel
theorem dX12_leaveTold_144 : decode cX12_leaveTold 144 = .ok (.goto 4, 3) := by decide +kernel
theorem dX12_leaveTold_147 : decode cX12_leaveTold 147 = .ok (.iconst 0, 1) := by decide +kernel
theorem dX12_leaveTold_148 : decode cX12_leaveTold 148 = .ok (.ireturn, 1) := by decide +kernel
theorem dX12_leaveTold_149 : decode cX12_leaveTold 149 = .ok (.bipush (-2), 2) := by decide +kernel
theorem dX12_leaveTold_151 : decode cX12_leaveTold 151 = .ok (.ireturn, 1) := by decide +kernel
theorem dX12_renew_0 : decode cX12_renew 0 = .ok (.aload_n 0, 1) := by decide +kernel
theorem dX12_renew_1 : decode cX12_renew 1 = .ok (.iload_n 1, 1) := by decide +kernel
theorem dX12_renew_2 : decode cX12_renew 2 = .ok (.invokevirtual 157, 3) := by decide +kernel
theorem dX12_renew_5 : decode cX12_renew 5 = .ok (.ifCond .ne 6, 3) := by decide +kernel
theorem dX12_renew_8 : decode cX12_renew 8 = .ok (.bipush (-2), 2) := by decide +kernel
theorem dX12_renew_10 : decode cX12_renew 10 = .ok (.ireturn, 1) := by decide +kernel
theorem dX12_renew_11 : decode cX12_renew 11 = .ok (.aload_n 0, 1) := by decide +kernel
theorem dX12_renew_12 : decode cX12_renew 12 = .ok (.getfield 163, 3) := by decide +kernel
theorem dX12_renew_15 : decode cX12_renew 15 = .ok (.iload_n 1, 1) := by decide +kernel
theorem dX12_renew_16 : decode cX12_renew 16 = .ok (.iaload, 1) := by decide +kernel
theorem dX12_renew_17 : decode cX12_renew 17 = .ok (.iconst 4, 1) := by decide +kernel
theorem dX12_renew_18 : decode cX12_renew 18 = .ok (.if_icmp .ne 6, 3) := by decide +kernel
theorem dX12_renew_21 : decode cX12_renew 21 = .ok (.bipush (-13), 2) := by decide +kernel
theorem dX12_renew_23 : decode cX12_renew 23 = .ok (.ireturn, 1) := by decide +kernel
theorem dX12_renew_24 : decode cX12_renew 24 = .ok (.aload_n 0, 1) := by decide +kernel
theorem dX12_renew_25 : decode cX12_renew 25 = .ok (.getfield 181, 3) := by decide +kernel
theorem dX12_renew_28 : decode cX12_renew 28 = .ok (.iload_n 1, 1) := by decide +kernel
theorem dX12_renew_29 : decode cX12_renew 29 = .ok (.iaload, 1) := by decide +kernel
theorem dX12_renew_30 : decode cX12_renew 30 = .ok (.iconst 5, 1) := by decide +kernel
theorem dX12_renew_31 : decode cX12_renew 31 = .ok (.if_icmp .ne 6, 3) := by decide +kernel
theorem dX12_renew_34 : decode cX12_renew 34 = .ok (.bipush (-3), 2) := by decide +kernel
theorem dX12_renew_36 : decode cX12_renew 36 = .ok (.ireturn, 1) := by decide +kernel
theorem dX12_renew_37 : decode cX12_renew 37 = .ok (.aload_n 0, 1) := by decide +kernel
theorem dX12_renew_38 : decode cX12_renew 38 = .ok (.getfield 181, 3) := by decide +kernel
theorem dX12_renew_41 : decode cX12_renew 41 = .ok (.iload_n 1, 1) := by decide +kernel
theorem dX12_renew_42 : decode cX12_renew 42 = .ok (.dup2, 1) := by decide +kernel
theorem dX12_renew_43 : decode cX12_renew 43 = .ok (.iaload, 1) := by decide +kernel
theorem dX12_renew_44 : decode cX12_renew 44 = .ok (.iconst 1, 1) := by decide +kernel
theorem dX12_renew_45 : decode cX12_renew 45 = .ok (.iadd, 1) := by decide +kernel
theorem dX12_renew_46 : decode cX12_renew 46 = .ok (.iastore, 1) := by decide +kernel
theorem dX12_renew_47 : decode cX12_renew 47 = .ok (.aload_n 0, 1) := by decide +kernel
theorem dX12_renew_48 : decode cX12_renew 48 = .ok (.getfield 181, 3) := by decide +kernel
theorem dX12_renew_51 : decode cX12_renew 51 = .ok (.iload_n 1, 1) := by decide +kernel
theorem dX12_renew_52 : decode cX12_renew 52 = .ok (.iaload, 1) := by decide +kernel
theorem dX12_renew_53 : decode cX12_renew 53 = .ok (.ireturn, 1) := by decide +kernel
theorem dX12_appeal_0 : decode cX12_appeal 0 = .ok (.aload_n 0, 1) := by decide +kernel
theorem dX12_appeal_1 : decode cX12_appeal 1 = .ok (.iload_n 1, 1) := by decide +kernel
theorem dX12_appeal_2 : decode cX12_appeal 2 = .ok (.invokevirtual 157, 3) := by decide +kernel
theorem dX12_appeal_5 : decode cX12_appeal 5 = .ok (.ifCond .ne 6, 3) := by decide +kernel
theorem dX12_appeal_8 : decode cX12_appeal 8 = .ok (.bipush (-2), 2) := by decide +kernel
theorem dX12_appeal_10 : decode cX12_appeal 10 = .ok (.ireturn, 1) := by decide +kernel
theorem dX12_appeal_11 : decode cX12_appeal 11 = .ok (.aload_n 0, 1) := by decide +kernel
theorem dX12_appeal_12 : decode cX12_appeal 12 = .ok (.getfield 163, 3) := by decide +kernel
theorem dX12_appeal_15 : decode cX12_appeal 15 = .ok (.iload_n 1, 1) := by decide +kernel
theorem dX12_appeal_16 : decode cX12_appeal 16 = .ok (.iaload, 1) := by decide +kernel
theorem dX12_appeal_17 : decode cX12_appeal 17 = .ok (.iconst 4, 1) := by decide +kernel
theorem dX12_appeal_18 : decode cX12_appeal 18 = .ok (.if_icmp .eq 6, 3) := by decide +kernel
theorem dX12_appeal_21 : decode cX12_appeal 21 = .ok (.bipush (-13), 2) := by decide +kernel
theorem dX12_appeal_23 : decode cX12_appeal 23 = .ok (.ireturn, 1) := by decide +kernel
theorem dX12_appeal_24 : decode cX12_appeal 24 = .ok (.aload_n 0, 1) := by decide +kernel
theorem dX12_appeal_25 : decode cX12_appeal 25 = .ok (.getfield 200, 3) := by decide +kernel
theorem dX12_appeal_28 : decode cX12_appeal 28 = .ok (.iload_n 1, 1) := by decide +kernel
theorem dX12_appeal_29 : decode cX12_appeal 29 = .ok (.baload, 1) := by decide +kernel
theorem dX12_appeal_30 : decode cX12_appeal 30 = .ok (.ifCond .ne 32, 3) := by decide +kernel
theorem dX12_appeal_33 : decode cX12_appeal 33 = .ok (.aload_n 0, 1) := by decide +kernel
theorem dX12_appeal_34 : decode cX12_appeal 34 = .ok (.getfield 15, 3) := by decide +kernel
theorem dX12_appeal_37 : decode cX12_appeal 37 = .ok (.aload_n 0, 1) := by decide +kernel
theorem dX12_appeal_38 : decode cX12_appeal 38 = .ok (.getfield 169, 3) := by decide +kernel
theorem dX12_appeal_41 : decode cX12_appeal 41 = .ok (.iload_n 1, 1) := by decide +kernel
theorem dX12_appeal_42 : decode cX12_appeal 42 = .ok (.iaload, 1) := by decide +kernel
theorem dX12_appeal_43 : decode cX12_appeal 43 = .ok (.if_icmp .lt 19, 3) := by decide +kernel
theorem dX12_appeal_46 : decode cX12_appeal 46 = .ok (.aload_n 0, 1) := by decide +kernel
theorem dX12_appeal_47 : decode cX12_appeal 47 = .ok (.getfield 15, 3) := by decide +kernel
theorem dX12_appeal_50 : decode cX12_appeal 50 = .ok (.aload_n 0, 1) := by decide +kernel
theorem dX12_appeal_51 : decode cX12_appeal 51 = .ok (.getfield 169, 3) := by decide +kernel
theorem dX12_appeal_54 : decode cX12_appeal 54 = .ok (.iload_n 1, 1) := by decide +kernel
theorem dX12_appeal_55 : decode cX12_appeal 55 = .ok (.iaload, 1) := by decide +kernel
theorem dX12_appeal_56 : decode cX12_appeal 56 = .ok (.isub, 1) := by decide +kernel
theorem dX12_appeal_57 : decode cX12_appeal 57 = .ok (.bipush 42, 2) := by decide +kernel
theorem dX12_appeal_59 : decode cX12_appeal 59 = .ok (.if_icmp .le 6, 3) := by decide +kernel
theorem dX12_appeal_62 : decode cX12_appeal 62 = .ok (.bipush (-3), 2) := by decide +kernel
theorem dX12_appeal_64 : decode cX12_appeal 64 = .ok (.ireturn, 1) := by decide +kernel
theorem dX12_appeal_65 : decode cX12_appeal 65 = .ok (.aload_n 0, 1) := by decide +kernel
theorem dX12_appeal_66 : decode cX12_appeal 66 = .ok (.getfield 200, 3) := by decide +kernel
theorem dX12_appeal_69 : decode cX12_appeal 69 = .ok (.iload_n 1, 1) := by decide +kernel
theorem dX12_appeal_70 : decode cX12_appeal 70 = .ok (.iconst 1, 1) := by decide +kernel
theorem dX12_appeal_71 : decode cX12_appeal 71 = .ok (.bastore, 1) := by decide +kernel
theorem dX12_appeal_72 : decode cX12_appeal 72 = .ok (.iconst 1, 1) := by decide +kernel
theorem dX12_appeal_73 : decode cX12_appeal 73 = .ok (.ireturn, 1) := by decide +kernel
theorem dX12_hangs_0 : decode cX12_hangs 0 = .ok (.aload_n 0, 1) := by decide +kernel
theorem dX12_hangs_1 : decode cX12_hangs 1 = .ok (.getfield 172, 3) := by decide +kernel
theorem dX12_hangs_4 : decode cX12_hangs 4 = .ok (.iload_n 1, 1) := by decide +kernel
theorem dX12_hangs_5 : decode cX12_hangs 5 = .ok (.iaload, 1) := by decide +kernel
theorem dX12_hangs_6 : decode cX12_hangs 6 = .ok (.istore_n 3, 1) := by decide +kernel
theorem dX12_hangs_7 : decode cX12_hangs 7 = .ok (.iload_n 3, 1) := by decide +kernel
theorem dX12_hangs_8 : decode cX12_hangs 8 = .ok (.iconst (-1), 1) := by decide +kernel
theorem dX12_hangs_9 : decode cX12_hangs 9 = .ok (.if_icmp .eq 18, 3) := by decide +kernel
theorem dX12_hangs_12 : decode cX12_hangs 12 = .ok (.iload_n 3, 1) := by decide +kernel
theorem dX12_hangs_13 : decode cX12_hangs 13 = .ok (.iload_n 2, 1) := by decide +kernel
theorem dX12_hangs_14 : decode cX12_hangs 14 = .ok (.if_icmp .eq 13, 3) := by decide +kernel
theorem dX12_hangs_17 : decode cX12_hangs 17 = .ok (.aload_n 0, 1) := by decide +kernel
theorem dX12_hangs_18 : decode cX12_hangs 18 = .ok (.getfield 172, 3) := by decide +kernel
theorem dX12_hangs_21 : decode cX12_hangs 21 = .ok (.iload_n 3, 1) := by decide +kernel
theorem dX12_hangs_22 : decode cX12_hangs 22 = .ok (.iaload, 1) := by decide +kernel
theorem dX12_hangs_23 : decode cX12_hangs 23 = .ok (.istore_n 3, 1) := by decide +kernel
theorem dX12_hangs_24 : decode cX12_hangs 24 = .ok (.goto (-17), 3) := by decide +kernel
theorem dX12_hangs_27 : decode cX12_hangs 27 = .ok (.iload_n 3, 1) := by decide +kernel
theorem dX12_hangs_28 : decode cX12_hangs 28 = .ok (.iload_n 2, 1) := by decide +kernel
theorem dX12_hangs_29 : decode cX12_hangs 29 = .ok (.if_icmp .ne 7, 3) := by decide +kernel
theorem dX12_hangs_32 : decode cX12_hangs 32 = .ok (.iconst 1, 1) := by decide +kernel
theorem dX12_hangs_33 : decode cX12_hangs 33 = .ok (.goto 4, 3) := by decide +kernel
theorem dX12_hangs_36 : decode cX12_hangs 36 = .ok (.iconst 0, 1) := by decide +kernel
theorem dX12_hangs_37 : decode cX12_hangs 37 = .ok (.ireturn, 1) := by decide +kernel
theorem dX12_undo_0 : decode cX12_undo 0 = .ok (.aload_n 0, 1) := by decide +kernel
theorem dX12_undo_1 : decode cX12_undo 1 = .ok (.iload_n 1, 1) := by decide +kernel
theorem dX12_undo_2 : decode cX12_undo 2 = .ok (.invokevirtual 157, 3) := by decide +kernel
theorem dX12_undo_5 : decode cX12_undo 5 = .ok (.ifCond .eq 20, 3) := by decide +kernel
theorem dX12_undo_8 : decode cX12_undo 8 = .ok (.iload_n 2, 1) := by decide +kernel
theorem dX12_undo_9 : decode cX12_undo 9 = .ok (.invokestatic 39, 3) := by decide +kernel
theorem dX12_undo_12 : decode cX12_undo 12 = .ok (.ifCond .eq 13, 3) := by decide +kernel
theorem dX12_undo_15 : decode cX12_undo 15 = .ok (.iload_n 2, 1) := by decide +kernel
theorem dX12_undo_16 : decode cX12_undo 16 = .ok (.aload_n 0, 1) := by decide +kernel
theorem dX12_undo_17 : decode cX12_undo 17 = .ok (.getfield 169, 3) := by decide +kernel
theorem dX12_undo_20 : decode cX12_undo 20 = .ok (.iload_n 1, 1) := by decide +kernel
theorem dX12_undo_21 : decode cX12_undo 21 = .ok (.iaload, 1) := by decide +kernel
theorem dX12_undo_22 : decode cX12_undo 22 = .ok (.if_icmp .ge 6, 3) := by decide +kernel
theorem dX12_undo_25 : decode cX12_undo 25 = .ok (.bipush (-2), 2) := by decide +kernel
theorem dX12_undo_27 : decode cX12_undo 27 = .ok (.ireturn, 1) := by decide +kernel
theorem dX12_undo_28 : decode cX12_undo 28 = .ok (.aload_n 0, 1) := by decide +kernel
theorem dX12_undo_29 : decode cX12_undo 29 = .ok (.getfield 163, 3) := by decide +kernel
theorem dX12_undo_32 : decode cX12_undo 32 = .ok (.iload_n 1, 1) := by decide +kernel
theorem dX12_undo_33 : decode cX12_undo 33 = .ok (.iaload, 1) := by decide +kernel
theorem dX12_undo_34 : decode cX12_undo 34 = .ok (.iconst 4, 1) := by decide +kernel
theorem dX12_undo_35 : decode cX12_undo 35 = .ok (.if_icmp .eq 6, 3) := by decide +kernel
theorem dX12_undo_38 : decode cX12_undo 38 = .ok (.bipush (-13), 2) := by decide +kernel
theorem dX12_undo_40 : decode cX12_undo 40 = .ok (.ireturn, 1) := by decide +kernel
theorem dX12_undo_41 : decode cX12_undo 41 = .ok (.aload_n 0, 1) := by decide +kernel
theorem dX12_undo_42 : decode cX12_undo 42 = .ok (.getfield 200, 3) := by decide +kernel
theorem dX12_undo_45 : decode cX12_undo 45 = .ok (.iload_n 1, 1) := by decide +kernel
theorem dX12_undo_46 : decode cX12_undo 46 = .ok (.baload, 1) := by decide +kernel
theorem dX12_undo_47 : decode cX12_undo 47 = .ok (.ifCond .eq 13, 3) := by decide +kernel
theorem dX12_undo_50 : decode cX12_undo 50 = .ok (.aload_n 0, 1) := by decide +kernel
theorem dX12_undo_51 : decode cX12_undo 51 = .ok (.getfield 175, 3) := by decide +kernel
theorem dX12_undo_54 : decode cX12_undo 54 = .ok (.iload_n 1, 1) := by decide +kernel
theorem dX12_undo_55 : decode cX12_undo 55 = .ok (.iaload, 1) := by decide +kernel
theorem dX12_undo_56 : decode cX12_undo 56 = .ok (.iconst (-1), 1) := by decide +kernel
theorem dX12_undo_57 : decode cX12_undo 57 = .ok (.if_icmp .eq 6, 3) := by decide +kernel
theorem dX12_undo_60 : decode cX12_undo 60 = .ok (.bipush (-3), 2) := by decide +kernel
theorem dX12_undo_62 : decode cX12_undo 62 = .ok (.ireturn, 1) := by decide +kernel
theorem dX12_undo_63 : decode cX12_undo 63 = .ok (.aload_n 0, 1) := by decide +kernel
theorem dX12_undo_64 : decode cX12_undo 64 = .ok (.getfield 175, 3) := by decide +kernel
theorem dX12_undo_67 : decode cX12_undo 67 = .ok (.iload_n 1, 1) := by decide +kernel
theorem dX12_undo_68 : decode cX12_undo 68 = .ok (.iload_n 2, 1) := by decide +kernel
theorem dX12_undo_69 : decode cX12_undo 69 = .ok (.iastore, 1) := by decide +kernel
theorem dX12_undo_70 : decode cX12_undo 70 = .ok (.iconst 0, 1) := by decide +kernel
theorem dX12_undo_71 : decode cX12_undo 71 = .ok (.istore_n 3, 1) := by decide +kernel
theorem dX12_undo_72 : decode cX12_undo 72 = .ok (.iconst 0, 1) := by decide +kernel
theorem dX12_undo_73 : decode cX12_undo 73 = .ok (.istore 4, 2) := by decide +kernel
theorem dX12_undo_75 : decode cX12_undo 75 = .ok (.iload 4, 2) := by decide +kernel
theorem dX12_undo_77 : decode cX12_undo 77 = .ok (.aload_n 0, 1) := by decide +kernel
theorem dX12_undo_78 : decode cX12_undo 78 = .ok (.getfield 150, 3) := by decide +kernel
theorem dX12_undo_81 : decode cX12_undo 81 = .ok (.if_icmp .ge 27, 3) := by decide +kernel
theorem dX12_undo_84 : decode cX12_undo 84 = .ok (.iload_n 3, 1) := by decide +kernel
theorem dX12_undo_85 : decode cX12_undo 85 = .ok (.aload_n 0, 1) := by decide +kernel
theorem dX12_undo_86 : decode cX12_undo 86 = .ok (.iload 4, 2) := by decide +kernel
theorem dX12_undo_88 : decode cX12_undo 88 = .ok (.iload_n 1, 1) := by decide +kernel
theorem dX12_undo_89 : decode cX12_undo 89 = .ok (.invokevirtual 204, 3) := by decide +kernel
theorem dX12_undo_92 : decode cX12_undo 92 = .ok (.ifCond .eq 7, 3) := by decide +kernel
theorem dX12_undo_95 : decode cX12_undo 95 = .ok (.iconst 1, 1) := by decide +kernel
theorem dX12_undo_96 : decode cX12_undo 96 = .ok (.goto 4, 3) := by decide +kernel
theorem dX12_undo_99 : decode cX12_undo 99 = .ok (.iconst 0, 1) := by decide +kernel
theorem dX12_undo_100 : decode cX12_undo 100 = .ok (.iadd, 1) := by decide +kernel
theorem dX12_undo_101 : decode cX12_undo 101 = .ok (.istore_n 3, 1) := by decide +kernel
theorem dX12_undo_102 : decode cX12_undo 102 = .ok (.iinc 4 1, 3) := by decide +kernel
theorem dX12_undo_105 : decode cX12_undo 105 = .ok (.goto (-30), 3) := by decide +kernel
theorem dX12_undo_108 : decode cX12_undo 108 = .ok (.iload_n 3, 1) := by decide +kernel
theorem dX12_undo_109 : decode cX12_undo 109 = .ok (.ireturn, 1) := by decide +kernel
theorem dX12_hasIn_0 : decode cX12_hasIn 0 = .ok (.iconst 0, 1) := by decide +kernel
theorem dX12_hasIn_1 : decode cX12_hasIn 1 = .ok (.istore_n 3, 1) := by decide +kernel
theorem dX12_hasIn_2 : decode cX12_hasIn 2 = .ok (.iconst 0, 1) := by decide +kernel
theorem dX12_hasIn_3 : decode cX12_hasIn 3 = .ok (.istore 4, 2) := by decide +kernel
theorem dX12_hasIn_5 : decode cX12_hasIn 5 = .ok (.iload 4, 2) := by decide +kernel
theorem dX12_hasIn_7 : decode cX12_hasIn 7 = .ok (.aload_n 0, 1) := by decide +kernel
theorem dX12_hasIn_8 : decode cX12_hasIn 8 = .ok (.getfield 150, 3) := by decide +kernel
theorem dX12_hasIn_11 : decode cX12_hasIn 11 = .ok (.if_icmp .ge 52, 3) := by decide +kernel
theorem dX12_hasIn_14 : decode cX12_hasIn 14 = .ok (.aload_n 0, 1) := by decide +kernel
theorem dX12_hasIn_15 : decode cX12_hasIn 15 = .ok (.getfield 160, 3) := by decide +kernel
theorem dX12_hasIn_18 : decode cX12_hasIn 18 = .ok (.iload 4, 2) := by decide +kernel
theorem dX12_hasIn_20 : decode cX12_hasIn 20 = .ok (.iaload, 1) := by decide +kernel
theorem dX12_hasIn_21 : decode cX12_hasIn 21 = .ok (.iload_n 1, 1) := by decide +kernel
theorem dX12_hasIn_22 : decode cX12_hasIn 22 = .ok (.if_icmp .ne 35, 3) := by decide +kernel
theorem dX12_hasIn_25 : decode cX12_hasIn 25 = .ok (.iload_n 3, 1) := by decide +kernel
theorem dX12_hasIn_26 : decode cX12_hasIn 26 = .ok (.iconst 1, 1) := by decide +kernel
theorem dX12_hasIn_27 : decode cX12_hasIn 27 = .ok (.if_icmp .eq 30, 3) := by decide +kernel
theorem dX12_hasIn_30 : decode cX12_hasIn 30 = .ok (.aload_n 0, 1) := by decide +kernel
theorem dX12_hasIn_31 : decode cX12_hasIn 31 = .ok (.iload 4, 2) := by decide +kernel
theorem dX12_hasIn_33 : decode cX12_hasIn 33 = .ok (.iload_n 2, 1) := by decide +kernel
theorem dX12_hasIn_34 : decode cX12_hasIn 34 = .ok (.invokevirtual 197, 3) := by decide +kernel
theorem dX12_hasIn_37 : decode cX12_hasIn 37 = .ok (.ifCond .eq 20, 3) := by decide +kernel
theorem dX12_hasIn_40 : decode cX12_hasIn 40 = .ok (.aload_n 0, 1) := by decide +kernel
theorem dX12_hasIn_41 : decode cX12_hasIn 41 = .ok (.getfield 163, 3) := by decide +kernel
theorem dX12_hasIn_44 : decode cX12_hasIn 44 = .ok (.iload 4, 2) := by decide +kernel
theorem dX12_hasIn_46 : decode cX12_hasIn 46 = .ok (.iaload, 1) := by decide +kernel
theorem dX12_hasIn_47 : decode cX12_hasIn 47 = .ok (.iconst 4, 1) := by decide +kernel
theorem dX12_hasIn_48 : decode cX12_hasIn 48 = .ok (.if_icmp .ne 7, 3) := by decide +kernel
theorem dX12_hasIn_51 : decode cX12_hasIn 51 = .ok (.iconst 2, 1) := by decide +kernel
theorem dX12_hasIn_52 : decode cX12_hasIn 52 = .ok (.goto 4, 3) := by decide +kernel
theorem dX12_hasIn_55 : decode cX12_hasIn 55 = .ok (.iconst 1, 1) := by decide +kernel
theorem dX12_hasIn_56 : decode cX12_hasIn 56 = .ok (.istore_n 3, 1) := by decide +kernel
theorem dX12_hasIn_57 : decode cX12_hasIn 57 = .ok (.iinc 4 1, 3) := by decide +kernel
theorem dX12_hasIn_60 : decode cX12_hasIn 60 = .ok (.goto (-55), 3) := by decide +kernel
theorem dX12_hasIn_63 : decode cX12_hasIn 63 = .ok (.iload_n 3, 1) := by decide +kernel
theorem dX12_hasIn_64 : decode cX12_hasIn 64 = .ok (.ireturn, 1) := by decide +kernel
theorem dX12_has_0 : decode cX12_has 0 = .ok (.aload_n 0, 1) := by decide +kernel
theorem dX12_has_1 : decode cX12_has 1 = .ok (.iload_n 1, 1) := by decide +kernel
theorem dX12_has_2 : decode cX12_has 2 = .ok (.invokevirtual 123, 3) := by decide +kernel
theorem dX12_has_5 : decode cX12_has 5 = .ok (.ifCond .eq 19, 3) := by decide +kernel
theorem dX12_has_8 : decode cX12_has 8 = .ok (.iload_n 2, 1) := by decide +kernel
theorem dX12_has_9 : decode cX12_has 9 = .ok (.invokestatic 39, 3) := by decide +kernel
theorem dX12_has_12 : decode cX12_has 12 = .ok (.ifCond .eq 12, 3) := by decide +kernel
theorem dX12_has_15 : decode cX12_has 15 = .ok (.aload_n 0, 1) := by decide +kernel
theorem dX12_has_16 : decode cX12_has 16 = .ok (.iload_n 1, 1) := by decide +kernel
theorem dX12_has_17 : decode cX12_has 17 = .ok (.iload_n 2, 1) := by decide +kernel
theorem dX12_has_18 : decode cX12_has 18 = .ok (.invokevirtual 207, 3) := by decide +kernel
theorem dX12_has_21 : decode cX12_has 21 = .ok (.goto 5, 3) := by decide +kernel
theorem dX12_has_24 : decode cX12_has 24 = .ok (.bipush (-2), 2) := by decide +kernel
theorem dX12_has_26 : decode cX12_has 26 = .ok (.ireturn, 1) := by decide +kernel
theorem dX12_endsAt_0 : decode cX12_endsAt 0 = .ok (.iload_n 2, 1) := by decide +kernel
theorem dX12_endsAt_1 : decode cX12_endsAt 1 = .ok (.aload_n 0, 1) := by decide +kernel
theorem dX12_endsAt_2 : decode cX12_endsAt 2 = .ok (.getfield 15, 3) := by decide +kernel
theorem dX12_endsAt_5 : decode cX12_endsAt 5 = .ok (.if_icmp .le 24, 3) := by decide +kernel
theorem dX12_endsAt_8 : decode cX12_endsAt 8 = .ok (.iload_n 2, 1) := by decide +kernel
theorem dX12_endsAt_9 : decode cX12_endsAt 9 = .ok (.sipush 9999, 3) := by decide +kernel
theorem dX12_endsAt_12 : decode cX12_endsAt 12 = .ok (.if_icmp .gt 17, 3) := by decide +kernel
theorem dX12_endsAt_15 : decode cX12_endsAt 15 = .ok (.iload_n 3, 1) := by decide +kernel
theorem dX12_endsAt_16 : decode cX12_endsAt 16 = .ok (.iconst (-1), 1) := by decide +kernel
theorem dX12_endsAt_17 : decode cX12_endsAt 17 = .ok (.if_icmp .eq 8, 3) := by decide +kernel
theorem dX12_endsAt_20 : decode cX12_endsAt 20 = .ok (.iload_n 2, 1) := by decide +kernel
theorem dX12_endsAt_21 : decode cX12_endsAt 21 = .ok (.iload_n 3, 1) := by decide +kernel
theorem dX12_endsAt_22 : decode cX12_endsAt 22 = .ok (.if_icmp .ge 7, 3) := by decide +kernel
theorem dX12_endsAt_25 : decode cX12_endsAt 25 = .ok (.iconst 1, 1) := by decide +kernel
theorem dX12_endsAt_26 : decode cX12_endsAt 26 = .ok (.goto 4, 3) := by decide +kernel
theorem dX12_endsAt_29 : decode cX12_endsAt 29 = .ok (.iconst 0, 1) := by decide +kernel
theorem dX12_endsAt_30 : decode cX12_endsAt 30 = .ok (.istore 4, 2) := by decide +kernel
theorem dX12_endsAt_32 : decode cX12_endsAt 32 = .ok (.iload 4, 2) := by decide +kernel
theorem dX12_endsAt_34 : decode cX12_endsAt 34 = .ok (.ifCond .eq 16, 3) := by decide +kernel
theorem dX12_endsAt_37 : decode cX12_endsAt 37 = .ok (.aload_n 0, 1) := by decide +kernel
theorem dX12_endsAt_38 : decode cX12_endsAt 38 = .ok (.iload_n 1, 1) := by decide +kernel
theorem dX12_endsAt_39 : decode cX12_endsAt 39 = .ok (.iload_n 2, 1) := by decide +kernel
theorem dX12_endsAt_40 : decode cX12_endsAt 40 = .ok (.invokevirtual 207, 3) := by decide +kernel
theorem dX12_endsAt_43 : decode cX12_endsAt 43 = .ok (.ifCond .ne 7, 3) := by decide +kernel
theorem dX12_endsAt_46 : decode cX12_endsAt 46 = .ok (.iload_n 2, 1) := by decide +kernel
theorem dX12_endsAt_47 : decode cX12_endsAt 47 = .ok (.goto 4, 3) := by decide +kernel
theorem dX12_endsAt_50 : decode cX12_endsAt 50 = .ok (.iload_n 3, 1) := by decide +kernel
theorem dX12_endsAt_51 : decode cX12_endsAt 51 = .ok (.ireturn, 1) := by decide +kernel
theorem dX12_ends_0 : decode cX12_ends 0 = .ok (.aload_n 0, 1) := by decide +kernel
theorem dX12_ends_1 : decode cX12_ends 1 = .ok (.iload_n 1, 1) := by decide +kernel
theorem dX12_ends_2 : decode cX12_ends 2 = .ok (.aload_n 0, 1) := by decide +kernel
theorem dX12_ends_3 : decode cX12_ends 3 = .ok (.getfield 15, 3) := by decide +kernel
theorem dX12_ends_6 : decode cX12_ends 6 = .ok (.invokevirtual 207, 3) := by decide +kernel
theorem dX12_ends_9 : decode cX12_ends 9 = .ok (.ifCond .ne 8, 3) := by decide +kernel
theorem dX12_ends_12 : decode cX12_ends 12 = .ok (.aload_n 0, 1) := by decide +kernel
theorem dX12_ends_13 : decode cX12_ends 13 = .ok (.getfield 15, 3) := by decide +kernel
theorem dX12_ends_16 : decode cX12_ends 16 = .ok (.ireturn, 1) := by decide +kernel
theorem dX12_ends_17 : decode cX12_ends 17 = .ok (.iconst (-1), 1) := by decide +kernel
theorem dX12_ends_18 : decode cX12_ends 18 = .ok (.istore_n 2, 1) := by decide +kernel
theorem dX12_ends_19 : decode cX12_ends 19 = .ok (.iconst 0, 1) := by decide +kernel
theorem dX12_ends_20 : decode cX12_ends 20 = .ok (.istore_n 3, 1) := by decide +kernel
theorem dX12_ends_21 : decode cX12_ends 21 = .ok (.iload_n 3, 1) := by decide +kernel
theorem dX12_ends_22 : decode cX12_ends 22 = .ok (.aload_n 0, 1) := by decide +kernel
theorem dX12_ends_23 : decode cX12_ends 23 = .ok (.getfield 150, 3) := by decide +kernel
theorem dX12_ends_26 : decode cX12_ends 26 = .ok (.if_icmp .ge 41, 3) := by decide +kernel
theorem dX12_ends_29 : decode cX12_ends 29 = .ok (.aload_n 0, 1) := by decide +kernel
theorem dX12_ends_30 : decode cX12_ends 30 = .ok (.iload_n 1, 1) := by decide +kernel
theorem dX12_ends_31 : decode cX12_ends 31 = .ok (.aload_n 0, 1) := by decide +kernel
theorem dX12_ends_32 : decode cX12_ends 32 = .ok (.getfield 169, 3) := by decide +kernel
theorem dX12_ends_35 : decode cX12_ends 35 = .ok (.iload_n 3, 1) := by decide +kernel
theorem dX12_ends_36 : decode cX12_ends 36 = .ok (.iaload, 1) := by decide +kernel
theorem dX12_ends_37 : decode cX12_ends 37 = .ok (.aload_n 0, 1) := by decide +kernel
theorem dX12_ends_38 : decode cX12_ends 38 = .ok (.iload_n 3, 1) := by decide +kernel
theorem dX12_ends_39 : decode cX12_ends 39 = .ok (.invokevirtual 184, 3) := by decide +kernel
theorem dX12_ends_42 : decode cX12_ends 42 = .ok (.iadd, 1) := by decide +kernel
theorem dX12_ends_43 : decode cX12_ends 43 = .ok (.iload_n 2, 1) := by decide +kernel
theorem dX12_ends_44 : decode cX12_ends 44 = .ok (.invokevirtual 210, 3) := by decide +kernel
theorem dX12_ends_47 : decode cX12_ends 47 = .ok (.istore_n 2, 1) := by decide +kernel
theorem dX12_ends_48 : decode cX12_ends 48 = .ok (.aload_n 0, 1) := by decide +kernel
theorem dX12_ends_49 : decode cX12_ends 49 = .ok (.iload_n 1, 1) := by decide +kernel
theorem dX12_ends_50 : decode cX12_ends 50 = .ok (.aload_n 0, 1) := by decide +kernel
theorem dX12_ends_51 : decode cX12_ends 51 = .ok (.getfield 175, 3) := by decide +kernel
theorem dX12_ends_54 : decode cX12_ends 54 = .ok (.iload_n 3, 1) := by decide +kernel
theorem dX12_ends_55 : decode cX12_ends 55 = .ok (.iaload, 1) := by decide +kernel
theorem dX12_ends_56 : decode cX12_ends 56 = .ok (.iload_n 2, 1) := by decide +kernel
theorem dX12_ends_57 : decode cX12_ends 57 = .ok (.invokevirtual 210, 3) := by decide +kernel
theorem dX12_ends_60 : decode cX12_ends 60 = .ok (.istore_n 2, 1) := by decide +kernel
theorem dX12_ends_61 : decode cX12_ends 61 = .ok (.iinc 3 1, 3) := by decide +kernel
theorem dX12_ends_64 : decode cX12_ends 64 = .ok (.goto (-43), 3) := by decide +kernel
theorem dX12_ends_67 : decode cX12_ends 67 = .ok (.iconst 0, 1) := by decide +kernel
theorem dX12_ends_68 : decode cX12_ends 68 = .ok (.istore_n 3, 1) := by decide +kernel
theorem dX12_ends_69 : decode cX12_ends 69 = .ok (.iload_n 3, 1) := by decide +kernel
theorem dX12_ends_70 : decode cX12_ends 70 = .ok (.aload_n 0, 1) := by decide +kernel
theorem dX12_ends_71 : decode cX12_ends 71 = .ok (.getfield 26, 3) := by decide +kernel
theorem dX12_ends_74 : decode cX12_ends 74 = .ok (.if_icmp .ge 22, 3) := by decide +kernel
theorem dX12_ends_77 : decode cX12_ends 77 = .ok (.aload_n 0, 1) := by decide +kernel
theorem dX12_ends_78 : decode cX12_ends 78 = .ok (.iload_n 1, 1) := by decide +kernel
theorem dX12_ends_79 : decode cX12_ends 79 = .ok (.aload_n 0, 1) := by decide +kernel
theorem dX12_ends_80 : decode cX12_ends 80 = .ok (.getfield 36, 3) := by decide +kernel
theorem dX12_ends_83 : decode cX12_ends 83 = .ok (.iload_n 3, 1) := by decide +kernel
theorem dX12_ends_84 : decode cX12_ends 84 = .ok (.iaload, 1) := by decide +kernel
theorem dX12_ends_85 : decode cX12_ends 85 = .ok (.iload_n 2, 1) := by decide +kernel
theorem dX12_ends_86 : decode cX12_ends 86 = .ok (.invokevirtual 210, 3) := by decide +kernel
theorem dX12_ends_89 : decode cX12_ends 89 = .ok (.istore_n 2, 1) := by decide +kernel
theorem dX12_ends_90 : decode cX12_ends 90 = .ok (.iinc 3 1, 3) := by decide +kernel
theorem dX12_ends_93 : decode cX12_ends 93 = .ok (.goto (-24), 3) := by decide +kernel
theorem dX12_ends_96 : decode cX12_ends 96 = .ok (.iload_n 2, 1) := by decide +kernel
theorem dX12_ends_97 : decode cX12_ends 97 = .ok (.ireturn, 1) := by decide +kernel
theorem dX12_parted_0 : decode cX12_parted 0 = .ok (.lconst 0, 1) := by decide +kernel
theorem dX12_parted_1 : decode cX12_parted 1 = .ok (.lstore_n 2, 1) := by decide +kernel
theorem dX12_parted_2 : decode cX12_parted 2 = .ok (.iconst 0, 1) := by decide +kernel
theorem dX12_parted_3 : decode cX12_parted 3 = .ok (.istore 4, 2) := by decide +kernel
theorem dX12_parted_5 : decode cX12_parted 5 = .ok (.iload 4, 2) := by decide +kernel
theorem dX12_parted_7 : decode cX12_parted 7 = .ok (.bipush 10, 2) := by decide +kernel
theorem dX12_parted_9 : decode cX12_parted 9 = .ok (.if_icmp .ge 200, 3) := by decide +kernel
theorem dX12_parted_12 : decode cX12_parted 12 = .ok (.iconst 0, 1) := by decide +kernel
theorem dX12_parted_13 : decode cX12_parted 13 = .ok (.istore 5, 2) := by decide +kernel
theorem dX12_parted_15 : decode cX12_parted 15 = .ok (.iconst (-1), 1) := by decide +kernel
theorem dX12_parted_16 : decode cX12_parted 16 = .ok (.istore 6, 2) := by decide +kernel
theorem dX12_parted_18 : decode cX12_parted 18 = .ok (.bipush 9, 2) := by decide +kernel
theorem dX12_parted_20 : decode cX12_parted 20 = .ok (.istore 7, 2) := by decide +kernel
theorem dX12_parted_22 : decode cX12_parted 22 = .ok (.iload 7, 2) := by decide +kernel
theorem dX12_parted_24 : decode cX12_parted 24 = .ok (.ifCond .lt 52, 3) := by decide +kernel
theorem dX12_parted_27 : decode cX12_parted 27 = .ok (.iload 5, 2) := by decide +kernel
theorem dX12_parted_29 : decode cX12_parted 29 = .ok (.aload_n 0, 1) := by decide +kernel
theorem dX12_parted_30 : decode cX12_parted 30 = .ok (.getfield 48, 3) := by decide +kernel
theorem dX12_parted_33 : decode cX12_parted 33 = .ok (.bipush 10, 2) := by decide +kernel
theorem dX12_parted_35 : decode cX12_parted 35 = .ok (.iload 4, 2) := by decide +kernel
theorem dX12_parted_37 : decode cX12_parted 37 = .ok (.imul, 1) := by decide +kernel
theorem dX12_parted_38 : decode cX12_parted 38 = .ok (.iload 7, 2) := by decide +kernel
theorem dX12_parted_40 : decode cX12_parted 40 = .ok (.iadd, 1) := by decide +kernel
theorem dX12_parted_41 : decode cX12_parted 41 = .ok (.iaload, 1) := by decide +kernel
theorem dX12_parted_42 : decode cX12_parted 42 = .ok (.iadd, 1) := by decide +kernel
theorem dX12_parted_43 : decode cX12_parted 43 = .ok (.istore 5, 2) := by decide +kernel
theorem dX12_parted_45 : decode cX12_parted 45 = .ok (.aload_n 0, 1) := by decide +kernel
theorem dX12_parted_46 : decode cX12_parted 46 = .ok (.getfield 48, 3) := by decide +kernel
theorem dX12_parted_49 : decode cX12_parted 49 = .ok (.bipush 10, 2) := by decide +kernel
theorem dX12_parted_51 : decode cX12_parted 51 = .ok (.iload 4, 2) := by decide +kernel
theorem dX12_parted_53 : decode cX12_parted 53 = .ok (.imul, 1) := by decide +kernel
theorem dX12_parted_54 : decode cX12_parted 54 = .ok (.iload 7, 2) := by decide +kernel
theorem dX12_parted_56 : decode cX12_parted 56 = .ok (.iadd, 1) := by decide +kernel
theorem dX12_parted_57 : decode cX12_parted 57 = .ok (.iaload, 1) := by decide +kernel
theorem dX12_parted_58 : decode cX12_parted 58 = .ok (.ifCond .le 8, 3) := by decide +kernel
theorem dX12_parted_61 : decode cX12_parted 61 = .ok (.iload 7, 2) := by decide +kernel
theorem dX12_parted_63 : decode cX12_parted 63 = .ok (.goto 5, 3) := by decide +kernel
theorem dX12_parted_66 : decode cX12_parted 66 = .ok (.iload 6, 2) := by decide +kernel
theorem dX12_parted_68 : decode cX12_parted 68 = .ok (.istore 6, 2) := by decide +kernel
theorem dX12_parted_70 : decode cX12_parted 70 = .ok (.iinc 7 (-1), 3) := by decide +kernel
theorem dX12_parted_73 : decode cX12_parted 73 = .ok (.goto (-51), 3) := by decide +kernel
theorem dX12_parted_76 : decode cX12_parted 76 = .ok (.iload 5, 2) := by decide +kernel
theorem dX12_parted_78 : decode cX12_parted 78 = .ok (.ifCond .ne 26, 3) := by decide +kernel
theorem dX12_parted_81 : decode cX12_parted 81 = .ok (.lload_n 2, 1) := by decide +kernel
theorem dX12_parted_82 : decode cX12_parted 82 = .ok (.iload 4, 2) := by decide +kernel
theorem dX12_parted_84 : decode cX12_parted 84 = .ok (.iload_n 1, 1) := by decide +kernel
theorem dX12_parted_85 : decode cX12_parted 85 = .ok (.if_icmp .ne 13, 3) := by decide +kernel
theorem dX12_parted_88 : decode cX12_parted 88 = .ok (.aload_n 0, 1) := by decide +kernel
theorem dX12_parted_89 : decode cX12_parted 89 = .ok (.getfield 214, 3) := by decide +kernel
theorem dX12_parted_92 : decode cX12_parted 92 = .ok (.iload 4, 2) := by decide +kernel
theorem dX12_parted_94 : decode cX12_parted 94 = .ok (.laload, 1) := by decide +kernel
theorem dX12_parted_95 : decode cX12_parted 95 = .ok (.goto 4, 3) := by decide +kernel
theorem dX12_parted_98 : decode cX12_parted 98 = .ok (.lconst 0, 1) := by decide +kernel
theorem dX12_parted_99 : decode cX12_parted 99 = .ok (.ladd, 1) := by decide +kernel
theorem dX12_parted_100 : decode cX12_parted 100 = .ok (.lstore_n 2, 1) := by decide +kernel
theorem dX12_parted_101 : decode cX12_parted 101 = .ok (.goto 102, 3) := by decide +kernel
theorem dX12_parted_104 : decode cX12_parted 104 = .ok (.aload_n 0, 1) := by decide +kernel
theorem dX12_parted_105 : decode cX12_parted 105 = .ok (.getfield 214, 3) := by decide +kernel
theorem dX12_parted_108 : decode cX12_parted 108 = .ok (.iload 4, 2) := by decide +kernel
theorem dX12_parted_110 : decode cX12_parted 110 = .ok (.laload, 1) := by decide +kernel
theorem dX12_parted_111 : decode cX12_parted 111 = .ok (.lstore 7, 2) := by decide +kernel
theorem dX12_parted_113 : decode cX12_parted 113 = .ok (.iconst 0, 1) := by decide +kernel
theorem dX12_parted_114 : decode cX12_parted 114 = .ok (.istore 9, 2) := by decide +kernel
theorem dX12_parted_116 : decode cX12_parted 116 = .ok (.iload 9, 2) := by decide +kernel
theorem dX12_parted_118 : decode cX12_parted 118 = .ok (.bipush 10, 2) := by decide +kernel
theorem dX12_parted_120 : decode cX12_parted 120 = .ok (.if_icmp .ge 40, 3) := by decide +kernel
theorem dX12_parted_123 : decode cX12_parted 123 = .ok (.lload 7, 2) := by decide +kernel
theorem dX12_parted_125 : decode cX12_parted 125 = .ok (.aload_n 0, 1) := by decide +kernel
theorem dX12_parted_126 : decode cX12_parted 126 = .ok (.getfield 214, 3) := by decide +kernel
theorem dX12_parted_129 : decode cX12_parted 129 = .ok (.iload 4, 2) := by decide +kernel
theorem dX12_parted_131 : decode cX12_parted 131 = .ok (.laload, 1) := by decide +kernel
theorem dX12_parted_132 : decode cX12_parted 132 = .ok (.aload_n 0, 1) := by decide +kernel
theorem dX12_parted_133 : decode cX12_parted 133 = .ok (.getfield 48, 3) := by decide +kernel
theorem dX12_parted_136 : decode cX12_parted 136 = .ok (.bipush 10, 2) := by decide +kernel
theorem dX12_parted_138 : decode cX12_parted 138 = .ok (.iload 4, 2) := by decide +kernel
theorem dX12_parted_140 : decode cX12_parted 140 = .ok (.imul, 1) := by decide +kernel
theorem dX12_parted_141 : decode cX12_parted 141 = .ok (.iload 9, 2) := by decide +kernel
theorem dX12_parted_143 : decode cX12_parted 143 = .ok (.iadd, 1) := by decide +kernel
theorem dX12_parted_144 : decode cX12_parted 144 = .ok (.iaload, 1) := by decide +kernel
theorem dX12_parted_145 : decode cX12_parted 145 = .ok (.i2l, 1) := by decide +kernel
theorem dX12_parted_146 : decode cX12_parted 146 = .ok (.lmul, 1) := by decide +kernel
theorem dX12_parted_147 : decode cX12_parted 147 = .ok (.iload 5, 2) := by decide +kernel
theorem dX12_parted_149 : decode cX12_parted 149 = .ok (.i2l, 1) := by decide +kernel
theorem dX12_parted_150 : decode cX12_parted 150 = .ok (.ldiv, 1) := by decide +kernel
theorem dX12_parted_151 : decode cX12_parted 151 = .ok (.lsub, 1) := by decide +kernel
theorem dX12_parted_152 : decode cX12_parted 152 = .ok (.lstore 7, 2) := by decide +kernel
theorem dX12_parted_154 : decode cX12_parted 154 = .ok (.iinc 9 1, 3) := by decide +kernel
theorem dX12_parted_157 : decode cX12_parted 157 = .ok (.goto (-41), 3) := by decide +kernel
theorem dX12_parted_160 : decode cX12_parted 160 = .ok (.lload_n 2, 1) := by decide +kernel
theorem dX12_parted_161 : decode cX12_parted 161 = .ok (.aload_n 0, 1) := by decide +kernel
theorem dX12_parted_162 : decode cX12_parted 162 = .ok (.getfield 214, 3) := by decide +kernel
theorem dX12_parted_165 : decode cX12_parted 165 = .ok (.iload 4, 2) := by decide +kernel
theorem dX12_parted_167 : decode cX12_parted 167 = .ok (.laload, 1) := by decide +kernel
theorem dX12_parted_168 : decode cX12_parted 168 = .ok (.aload_n 0, 1) := by decide +kernel
theorem dX12_parted_169 : decode cX12_parted 169 = .ok (.getfield 48, 3) := by decide +kernel
theorem dX12_parted_172 : decode cX12_parted 172 = .ok (.bipush 10, 2) := by decide +kernel
theorem dX12_parted_174 : decode cX12_parted 174 = .ok (.iload 4, 2) := by decide +kernel
theorem dX12_parted_176 : decode cX12_parted 176 = .ok (.imul, 1) := by decide +kernel
theorem dX12_parted_177 : decode cX12_parted 177 = .ok (.iload_n 1, 1) := by decide +kernel
theorem dX12_parted_178 : decode cX12_parted 178 = .ok (.iadd, 1) := by decide +kernel
theorem dX12_parted_179 : decode cX12_parted 179 = .ok (.iaload, 1) := by decide +kernel
theorem dX12_parted_180 : decode cX12_parted 180 = .ok (.i2l, 1) := by decide +kernel
theorem dX12_parted_181 : decode cX12_parted 181 = .ok (.lmul, 1) := by decide +kernel
theorem dX12_parted_182 : decode cX12_parted 182 = .ok (.iload 5, 2) := by decide +kernel
theorem dX12_parted_184 : decode cX12_parted 184 = .ok (.i2l, 1) := by decide +kernel
theorem dX12_parted_185 : decode cX12_parted 185 = .ok (.ldiv, 1) := by decide +kernel
theorem dX12_parted_186 : decode cX12_parted 186 = .ok (.ladd, 1) := by decide +kernel
theorem dX12_parted_187 : decode cX12_parted 187 = .ok (.lstore_n 2, 1) := by decide +kernel
theorem dX12_parted_188 : decode cX12_parted 188 = .ok (.lload_n 2, 1) := by decide +kernel
theorem dX12_parted_189 : decode cX12_parted 189 = .ok (.iload 6, 2) := by decide +kernel
theorem dX12_parted_191 : decode cX12_parted 191 = .ok (.iload_n 1, 1) := by decide +kernel
theorem dX12_parted_192 : decode cX12_parted 192 = .ok (.if_icmp .ne 8, 3) := by decide +kernel
theorem dX12_parted_195 : decode cX12_parted 195 = .ok (.lload 7, 2) := by decide +kernel
theorem dX12_parted_197 : decode cX12_parted 197 = .ok (.goto 4, 3) := by decide +kernel
theorem dX12_parted_200 : decode cX12_parted 200 = .ok (.lconst 0, 1) := by decide +kernel
theorem dX12_parted_201 : decode cX12_parted 201 = .ok (.ladd, 1) := by decide +kernel
theorem dX12_parted_202 : decode cX12_parted 202 = .ok (.lstore_n 2, 1) := by decide +kernel
theorem dX12_parted_203 : decode cX12_parted 203 = .ok (.iinc 4 1, 3) := by decide +kernel
theorem dX12_parted_206 : decode cX12_parted 206 = .ok (.goto (-201), 3) := by decide +kernel
theorem dX12_parted_209 : decode cX12_parted 209 = .ok (.lload_n 2, 1) := by decide +kernel
theorem dX12_parted_210 : decode cX12_parted 210 = .ok (.lreturn, 1) := by decide +kernel
theorem dX12_clearComes_0 : decode cX12_clearComes 0 = .ok (.iconst 0, 1) := by decide +kernel
theorem dX12_clearComes_1 : decode cX12_clearComes 1 = .ok (.istore_n 1, 1) := by decide +kernel
theorem dX12_clearComes_2 : decode cX12_clearComes 2 = .ok (.iload_n 1, 1) := by decide +kernel
theorem dX12_clearComes_3 : decode cX12_clearComes 3 = .ok (.bipush 10, 2) := by decide +kernel
theorem dX12_clearComes_5 : decode cX12_clearComes 5 = .ok (.if_icmp .ge 16, 3) := by decide +kernel
theorem dX12_clearComes_8 : decode cX12_clearComes 8 = .ok (.aload_n 0, 1) := by decide +kernel
theorem dX12_clearComes_9 : decode cX12_clearComes 9 = .ok (.getfield 214, 3) := by decide +kernel
theorem dX12_clearComes_12 : decode cX12_clearComes 12 = .ok (.iload_n 1, 1) := by decide +kernel
theorem dX12_clearComes_13 : decode cX12_clearComes 13 = .ok (.lconst 0, 1) := by decide +kernel
theorem dX12_clearComes_14 : decode cX12_clearComes 14 = .ok (.lastore, 1) := by decide +kernel
theorem dX12_clearComes_15 : decode cX12_clearComes 15 = .ok (.iinc 1 1, 3) := by decide +kernel
theorem dX12_clearComes_18 : decode cX12_clearComes 18 = .ok (.goto (-16), 3) := by decide +kernel
theorem dX12_clearComes_21 : decode cX12_clearComes 21 = .ok (.return_, 1) := by decide +kernel
theorem dX12_yearly_0 : decode cX12_yearly 0 = .ok (.iload_n 1, 1) := by decide +kernel
theorem dX12_yearly_1 : decode cX12_yearly 1 = .ok (.invokestatic 23, 3) := by decide +kernel
theorem dX12_yearly_4 : decode cX12_yearly 4 = .ok (.ifCond .eq 10, 3) := by decide +kernel
theorem dX12_yearly_7 : decode cX12_yearly 7 = .ok (.iload_n 2, 1) := by decide +kernel
theorem dX12_yearly_8 : decode cX12_yearly 8 = .ok (.invokestatic 39, 3) := by decide +kernel
theorem dX12_yearly_11 : decode cX12_yearly 11 = .ok (.ifCond .ne 7, 3) := by decide +kernel
theorem dX12_yearly_14 : decode cX12_yearly 14 = .ok (.ldc2_w 142, 3) := by decide +kernel
theorem dX12_yearly_17 : decode cX12_yearly 17 = .ok (.lreturn, 1) := by decide +kernel
theorem dX12_yearly_18 : decode cX12_yearly 18 = .ok (.aload_n 0, 1) := by decide +kernel
theorem dX12_yearly_19 : decode cX12_yearly 19 = .ok (.invokevirtual 218, 3) := by decide +kernel
theorem dX12_yearly_22 : decode cX12_yearly 22 = .ok (.iconst 0, 1) := by decide +kernel
theorem dX12_yearly_23 : decode cX12_yearly 23 = .ok (.istore_n 3, 1) := by decide +kernel
theorem dX12_yearly_24 : decode cX12_yearly 24 = .ok (.iload_n 3, 1) := by decide +kernel
theorem dX12_yearly_25 : decode cX12_yearly 25 = .ok (.aload_n 0, 1) := by decide +kernel
theorem dX12_yearly_26 : decode cX12_yearly 26 = .ok (.getfield 150, 3) := by decide +kernel
theorem dX12_yearly_29 : decode cX12_yearly 29 = .ok (.if_icmp .ge 48, 3) := by decide +kernel
theorem dX12_yearly_32 : decode cX12_yearly 32 = .ok (.aload_n 0, 1) := by decide +kernel
theorem dX12_yearly_33 : decode cX12_yearly 33 = .ok (.iload_n 3, 1) := by decide +kernel
theorem dX12_yearly_34 : decode cX12_yearly 34 = .ok (.iload_n 2, 1) := by decide +kernel
theorem dX12_yearly_35 : decode cX12_yearly 35 = .ok (.invokevirtual 197, 3) := by decide +kernel
theorem dX12_yearly_38 : decode cX12_yearly 38 = .ok (.ifCond .eq 33, 3) := by decide +kernel
theorem dX12_yearly_41 : decode cX12_yearly 41 = .ok (.aload_n 0, 1) := by decide +kernel
theorem dX12_yearly_42 : decode cX12_yearly 42 = .ok (.getfield 214, 3) := by decide +kernel
theorem dX12_yearly_45 : decode cX12_yearly 45 = .ok (.aload_n 0, 1) := by decide +kernel
theorem dX12_yearly_46 : decode cX12_yearly 46 = .ok (.aload_n 0, 1) := by decide +kernel
theorem dX12_yearly_47 : decode cX12_yearly 47 = .ok (.getfield 111, 3) := by decide +kernel
theorem dX12_yearly_50 : decode cX12_yearly 50 = .ok (.aload_n 0, 1) := by decide +kernel
theorem dX12_yearly_51 : decode cX12_yearly 51 = .ok (.getfield 160, 3) := by decide +kernel
theorem dX12_yearly_54 : decode cX12_yearly 54 = .ok (.iload_n 3, 1) := by decide +kernel
theorem dX12_yearly_55 : decode cX12_yearly 55 = .ok (.iaload, 1) := by decide +kernel
theorem dX12_yearly_56 : decode cX12_yearly 56 = .ok (.iaload, 1) := by decide +kernel
theorem dX12_yearly_57 : decode cX12_yearly 57 = .ok (.iload_n 2, 1) := by decide +kernel
theorem dX12_yearly_58 : decode cX12_yearly 58 = .ok (.invokevirtual 42, 3) := by decide +kernel
theorem dX12_yearly_61 : decode cX12_yearly 61 = .ok (.dup2, 1) := by decide +kernel
theorem dX12_yearly_62 : decode cX12_yearly 62 = .ok (.laload, 1) := by decide +kernel
theorem dX12_yearly_63 : decode cX12_yearly 63 = .ok (.aload_n 0, 1) := by decide +kernel
theorem dX12_yearly_64 : decode cX12_yearly 64 = .ok (.iload_n 3, 1) := by decide +kernel
theorem dX12_yearly_65 : decode cX12_yearly 65 = .ok (.invokevirtual 194, 3) := by decide +kernel
theorem dX12_yearly_68 : decode cX12_yearly 68 = .ok (.i2l, 1) := by decide +kernel
theorem dX12_yearly_69 : decode cX12_yearly 69 = .ok (.ladd, 1) := by decide +kernel
theorem dX12_yearly_70 : decode cX12_yearly 70 = .ok (.lastore, 1) := by decide +kernel
theorem dX12_yearly_71 : decode cX12_yearly 71 = .ok (.iinc 3 1, 3) := by decide +kernel
theorem dX12_yearly_74 : decode cX12_yearly 74 = .ok (.goto (-50), 3) := by decide +kernel
theorem dX12_yearly_77 : decode cX12_yearly 77 = .ok (.aload_n 0, 1) := by decide +kernel
theorem dX12_yearly_78 : decode cX12_yearly 78 = .ok (.iload_n 1, 1) := by decide +kernel
theorem dX12_yearly_79 : decode cX12_yearly 79 = .ok (.invokevirtual 222, 3) := by decide +kernel
theorem dX12_yearly_82 : decode cX12_yearly 82 = .ok (.lreturn, 1) := by decide +kernel
theorem dX12_feed_0 : decode cX12_feed 0 = .ok (.iload_n 1, 1) := by decide +kernel
theorem dX12_feed_1 : decode cX12_feed 1 = .ok (.i2l, 1) := by decide +kernel
theorem dX12_feed_2 : decode cX12_feed 2 = .ok (.lconst 1, 1) := by decide +kernel
theorem dX12_feed_3 : decode cX12_feed 3 = .ok (.ldc2_w 226, 3) := by decide +kernel
theorem dX12_feed_6 : decode cX12_feed 6 = .ok (.invokestatic 5, 3) := by decide +kernel
theorem dX12_feed_9 : decode cX12_feed 9 = .ok (.ifCond .ne 6, 3) := by decide +kernel
theorem dX12_feed_12 : decode cX12_feed 12 = .ok (.bipush (-2), 2) := by decide +kernel
theorem dX12_feed_14 : decode cX12_feed 14 = .ok (.ireturn, 1) := by decide +kernel
theorem dX12_feed_15 : decode cX12_feed 15 = .ok (.aload_n 0, 1) := by decide +kernel
theorem dX12_feed_16 : decode cX12_feed 16 = .ok (.getfield 228, 3) := by decide +kernel
theorem dX12_feed_19 : decode cX12_feed 19 = .ok (.iload_n 1, 1) := by decide +kernel
theorem dX12_feed_20 : decode cX12_feed 20 = .ok (.iadd, 1) := by decide +kernel
theorem dX12_feed_21 : decode cX12_feed 21 = .ok (.sipush 160, 3) := by decide +kernel
theorem dX12_feed_24 : decode cX12_feed 24 = .ok (.if_icmp .le 6, 3) := by decide +kernel
theorem dX12_feed_27 : decode cX12_feed 27 = .ok (.bipush (-4), 2) := by decide +kernel
theorem dX12_feed_29 : decode cX12_feed 29 = .ok (.ireturn, 1) := by decide +kernel
theorem dX12_feed_30 : decode cX12_feed 30 = .ok (.iconst 0, 1) := by decide +kernel
theorem dX12_feed_31 : decode cX12_feed 31 = .ok (.istore 4, 2) := by decide +kernel
theorem dX12_feed_33 : decode cX12_feed 33 = .ok (.iload 4, 2) := by decide +kernel
theorem dX12_feed_35 : decode cX12_feed 35 = .ok (.iload_n 1, 1) := by decide +kernel
theorem dX12_feed_36 : decode cX12_feed 36 = .ok (.if_icmp .ge 37, 3) := by decide +kernel
theorem dX12_feed_39 : decode cX12_feed 39 = .ok (.aload_n 0, 1) := by decide +kernel
theorem dX12_feed_40 : decode cX12_feed 40 = .ok (.getfield 231, 3) := by decide +kernel
theorem dX12_feed_43 : decode cX12_feed 43 = .ok (.aload_n 0, 1) := by decide +kernel
theorem dX12_feed_44 : decode cX12_feed 44 = .ok (.getfield 228, 3) := by decide +kernel
theorem dX12_feed_47 : decode cX12_feed 47 = .ok (.lload_n 2, 1) := by decide +kernel
theorem dX12_feed_48 : decode cX12_feed 48 = .ok (.bipush 8, 2) := by decide +kernel
theorem dX12_feed_50 : decode cX12_feed 50 = .ok (.iload 4, 2) := by decide +kernel
theorem dX12_feed_52 : decode cX12_feed 52 = .ok (.imul, 1) := by decide +kernel
theorem dX12_feed_53 : decode cX12_feed 53 = .ok (.lshr, 1) := by decide +kernel
theorem dX12_feed_54 : decode cX12_feed 54 = .ok (.l2i, 1) := by decide +kernel
theorem dX12_feed_55 : decode cX12_feed 55 = .ok (.i2b, 1) := by decide +kernel
theorem dX12_feed_56 : decode cX12_feed 56 = .ok (.bastore, 1) := by decide +kernel
theorem dX12_feed_57 : decode cX12_feed 57 = .ok (.aload_n 0, 1) := by decide +kernel
theorem dX12_feed_58 : decode cX12_feed 58 = .ok (.dup, 1) := by decide +kernel
theorem dX12_feed_59 : decode cX12_feed 59 = .ok (.getfield 228, 3) := by decide +kernel
theorem dX12_feed_62 : decode cX12_feed 62 = .ok (.iconst 1, 1) := by decide +kernel
theorem dX12_feed_63 : decode cX12_feed 63 = .ok (.iadd, 1) := by decide +kernel
theorem dX12_feed_64 : decode cX12_feed 64 = .ok (.putfield 228, 3) := by decide +kernel
theorem dX12_feed_67 : decode cX12_feed 67 = .ok (.iinc 4 1, 3) := by decide +kernel
theorem dX12_feed_70 : decode cX12_feed 70 = .ok (.goto (-37), 3) := by decide +kernel
theorem dX12_feed_73 : decode cX12_feed 73 = .ok (.aload_n 0, 1) := by decide +kernel
theorem dX12_feed_74 : decode cX12_feed 74 = .ok (.getfield 228, 3) := by decide +kernel
theorem dX12_feed_77 : decode cX12_feed 77 = .ok (.ireturn, 1) := by decide +kernel
theorem dX12_isLetter_0 : decode cX12_isLetter 0 = .ok (.iload_n 1, 1) := by decide +kernel
theorem dX12_isLetter_1 : decode cX12_isLetter 1 = .ok (.aload_n 0, 1) := by decide +kernel
theorem dX12_isLetter_2 : decode cX12_isLetter 2 = .ok (.getfield 228, 3) := by decide +kernel
theorem dX12_isLetter_5 : decode cX12_isLetter 5 = .ok (.if_icmp .ge 29, 3) := by decide +kernel
theorem dX12_isLetter_8 : decode cX12_isLetter 8 = .ok (.aload_n 0, 1) := by decide +kernel
theorem dX12_isLetter_9 : decode cX12_isLetter 9 = .ok (.getfield 231, 3) := by decide +kernel
theorem dX12_isLetter_12 : decode cX12_isLetter 12 = .ok (.iload_n 1, 1) := by decide +kernel
theorem dX12_isLetter_13 : decode cX12_isLetter 13 = .ok (.baload, 1) := by decide +kernel
theorem dX12_isLetter_14 : decode cX12_isLetter 14 = .ok (.bipush 97, 2) := by decide +kernel
theorem dX12_isLetter_16 : decode cX12_isLetter 16 = .ok (.if_icmp .lt 18, 3) := by decide +kernel
theorem dX12_isLetter_19 : decode cX12_isLetter 19 = .ok (.aload_n 0, 1) := by decide +kernel
theorem dX12_isLetter_20 : decode cX12_isLetter 20 = .ok (.getfield 231, 3) := by decide +kernel
theorem dX12_isLetter_23 : decode cX12_isLetter 23 = .ok (.iload_n 1, 1) := by decide +kernel
theorem dX12_isLetter_24 : decode cX12_isLetter 24 = .ok (.baload, 1) := by decide +kernel
theorem dX12_isLetter_25 : decode cX12_isLetter 25 = .ok (.bipush 122, 2) := by decide +kernel
theorem dX12_isLetter_27 : decode cX12_isLetter 27 = .ok (.if_icmp .gt 7, 3) := by decide +kernel
theorem dX12_isLetter_30 : decode cX12_isLetter 30 = .ok (.iconst 1, 1) := by decide +kernel
theorem dX12_isLetter_31 : decode cX12_isLetter 31 = .ok (.goto 4, 3) := by decide +kernel
theorem dX12_isLetter_34 : decode cX12_isLetter 34 = .ok (.iconst 0, 1) := by decide +kernel
theorem dX12_isLetter_35 : decode cX12_isLetter 35 = .ok (.ireturn, 1) := by decide +kernel
theorem dX12_isDigit_0 : decode cX12_isDigit 0 = .ok (.iload_n 1, 1) := by decide +kernel
theorem dX12_isDigit_1 : decode cX12_isDigit 1 = .ok (.aload_n 0, 1) := by decide +kernel
theorem dX12_isDigit_2 : decode cX12_isDigit 2 = .ok (.getfield 228, 3) := by decide +kernel
theorem dX12_isDigit_5 : decode cX12_isDigit 5 = .ok (.if_icmp .ge 29, 3) := by decide +kernel
theorem dX12_isDigit_8 : decode cX12_isDigit 8 = .ok (.aload_n 0, 1) := by decide +kernel
theorem dX12_isDigit_9 : decode cX12_isDigit 9 = .ok (.getfield 231, 3) := by decide +kernel
theorem dX12_isDigit_12 : decode cX12_isDigit 12 = .ok (.iload_n 1, 1) := by decide +kernel
theorem dX12_isDigit_13 : decode cX12_isDigit 13 = .ok (.baload, 1) := by decide +kernel
theorem dX12_isDigit_14 : decode cX12_isDigit 14 = .ok (.bipush 48, 2) := by decide +kernel
theorem dX12_isDigit_16 : decode cX12_isDigit 16 = .ok (.if_icmp .lt 18, 3) := by decide +kernel
theorem dX12_isDigit_19 : decode cX12_isDigit 19 = .ok (.aload_n 0, 1) := by decide +kernel
theorem dX12_isDigit_20 : decode cX12_isDigit 20 = .ok (.getfield 231, 3) := by decide +kernel
theorem dX12_isDigit_23 : decode cX12_isDigit 23 = .ok (.iload_n 1, 1) := by decide +kernel
theorem dX12_isDigit_24 : decode cX12_isDigit 24 = .ok (.baload, 1) := by decide +kernel
theorem dX12_isDigit_25 : decode cX12_isDigit 25 = .ok (.bipush 57, 2) := by decide +kernel
theorem dX12_isDigit_27 : decode cX12_isDigit 27 = .ok (.if_icmp .gt 7, 3) := by decide +kernel
theorem dX12_isDigit_30 : decode cX12_isDigit 30 = .ok (.iconst 1, 1) := by decide +kernel
theorem dX12_isDigit_31 : decode cX12_isDigit 31 = .ok (.goto 4, 3) := by decide +kernel
theorem dX12_isDigit_34 : decode cX12_isDigit 34 = .ok (.iconst 0, 1) := by decide +kernel
theorem dX12_isDigit_35 : decode cX12_isDigit 35 = .ok (.ireturn, 1) := by decide +kernel
theorem dX12_readWord_0 : decode cX12_readWord 0 = .ok (.aload_n 0, 1) := by decide +kernel
theorem dX12_readWord_1 : decode cX12_readWord 1 = .ok (.aload_n 0, 1) := by decide +kernel
theorem dX12_readWord_2 : decode cX12_readWord 2 = .ok (.getfield 235, 3) := by decide +kernel
theorem dX12_readWord_5 : decode cX12_readWord 5 = .ok (.invokevirtual 238, 3) := by decide +kernel
theorem dX12_readWord_8 : decode cX12_readWord 8 = .ok (.ifCond .eq 16, 3) := by decide +kernel
theorem dX12_readWord_11 : decode cX12_readWord 11 = .ok (.aload_n 0, 1) := by decide +kernel
theorem dX12_readWord_12 : decode cX12_readWord 12 = .ok (.dup, 1) := by decide +kernel
theorem dX12_readWord_13 : decode cX12_readWord 13 = .ok (.getfield 235, 3) := by decide +kernel
theorem dX12_readWord_16 : decode cX12_readWord 16 = .ok (.iconst 1, 1) := by decide +kernel
theorem dX12_readWord_17 : decode cX12_readWord 17 = .ok (.iadd, 1) := by decide +kernel
theorem dX12_readWord_18 : decode cX12_readWord 18 = .ok (.putfield 235, 3) := by decide +kernel
theorem dX12_readWord_21 : decode cX12_readWord 21 = .ok (.goto (-21), 3) := by decide +kernel
theorem dX12_readWord_24 : decode cX12_readWord 24 = .ok (.aload_n 0, 1) := by decide +kernel
theorem dX12_readWord_25 : decode cX12_readWord 25 = .ok (.iconst 5, 1) := by decide +kernel
theorem dX12_readWord_26 : decode cX12_readWord 26 = .ok (.putfield 241, 3) := by decide +kernel
theorem dX12_readWord_29 : decode cX12_readWord 29 = .ok (.iconst 0, 1) := by decide +kernel
theorem dX12_readWord_30 : decode cX12_readWord 30 = .ok (.istore_n 1, 1) := by decide +kernel
theorem dX12_readWord_31 : decode cX12_readWord 31 = .ok (.iload_n 1, 1) := by decide +kernel
theorem dX12_readWord_32 : decode cX12_readWord 32 = .ok (.bipush 11, 2) := by decide +kernel
theorem dX12_readWord_34 : decode cX12_readWord 34 = .ok (.if_icmp .ge 135, 3) := by decide +kernel
theorem dX12_readWord_37 : decode cX12_readWord 37 = .ok (.aload_n 0, 1) := by decide +kernel
theorem dX12_readWord_38 : decode cX12_readWord 38 = .ok (.getfield 244, 3) := by decide +kernel
theorem dX12_readWord_41 : decode cX12_readWord 41 = .ok (.iload_n 1, 1) := by decide +kernel
theorem dX12_readWord_42 : decode cX12_readWord 42 = .ok (.iconst 1, 1) := by decide +kernel
theorem dX12_readWord_43 : decode cX12_readWord 43 = .ok (.iadd, 1) := by decide +kernel
theorem dX12_readWord_44 : decode cX12_readWord 44 = .ok (.iaload, 1) := by decide +kernel
theorem dX12_readWord_45 : decode cX12_readWord 45 = .ok (.aload_n 0, 1) := by decide +kernel
theorem dX12_readWord_46 : decode cX12_readWord 46 = .ok (.getfield 244, 3) := by decide +kernel
theorem dX12_readWord_49 : decode cX12_readWord 49 = .ok (.iload_n 1, 1) := by decide +kernel
theorem dX12_readWord_50 : decode cX12_readWord 50 = .ok (.iaload, 1) := by decide +kernel
theorem dX12_readWord_51 : decode cX12_readWord 51 = .ok (.isub, 1) := by decide +kernel
theorem dX12_readWord_52 : decode cX12_readWord 52 = .ok (.istore_n 2, 1) := by decide +kernel
theorem dX12_readWord_53 : decode cX12_readWord 53 = .ok (.iload_n 2, 1) := by decide +kernel
theorem dX12_readWord_54 : decode cX12_readWord 54 = .ok (.aload_n 0, 1) := by decide +kernel
theorem dX12_readWord_55 : decode cX12_readWord 55 = .ok (.getfield 235, 3) := by decide +kernel
theorem dX12_readWord_58 : decode cX12_readWord 58 = .ok (.aload_n 0, 1) := by decide +kernel
theorem dX12_readWord_59 : decode cX12_readWord 59 = .ok (.getfield 247, 3) := by decide +kernel
theorem dX12_readWord_62 : decode cX12_readWord 62 = .ok (.isub, 1) := by decide +kernel
theorem dX12_readWord_63 : decode cX12_readWord 63 = .ok (.if_icmp .ne 7, 3) := by decide +kernel
theorem dX12_readWord_66 : decode cX12_readWord 66 = .ok (.iconst 1, 1) := by decide +kernel
theorem dX12_readWord_67 : decode cX12_readWord 67 = .ok (.goto 4, 3) := by decide +kernel
theorem dX12_readWord_70 : decode cX12_readWord 70 = .ok (.iconst 0, 1) := by decide +kernel
theorem dX12_readWord_71 : decode cX12_readWord 71 = .ok (.istore_n 3, 1) := by decide +kernel
theorem dX12_readWord_72 : decode cX12_readWord 72 = .ok (.iconst 0, 1) := by decide +kernel
theorem dX12_readWord_73 : decode cX12_readWord 73 = .ok (.istore 4, 2) := by decide +kernel
theorem dX12_readWord_75 : decode cX12_readWord 75 = .ok (.iload 4, 2) := by decide +kernel
theorem dX12_readWord_77 : decode cX12_readWord 77 = .ok (.iload_n 2, 1) := by decide +kernel
theorem dX12_readWord_78 : decode cX12_readWord 78 = .ok (.if_icmp .ge 48, 3) := by decide +kernel
theorem dX12_readWord_81 : decode cX12_readWord 81 = .ok (.iload_n 3, 1) := by decide +kernel
theorem dX12_readWord_82 : decode cX12_readWord 82 = .ok (.ifCond .eq 44, 3) := by decide +kernel
theorem dX12_readWord_85 : decode cX12_readWord 85 = .ok (.aload_n 0, 1) := by decide +kernel
theorem dX12_readWord_86 : decode cX12_readWord 86 = .ok (.getfield 231, 3) := by decide +kernel
theorem dX12_readWord_89 : decode cX12_readWord 89 = .ok (.aload_n 0, 1) := by decide +kernel
theorem dX12_readWord_90 : decode cX12_readWord 90 = .ok (.getfield 247, 3) := by decide +kernel
theorem dX12_readWord_93 : decode cX12_readWord 93 = .ok (.iload 4, 2) := by decide +kernel
theorem dX12_readWord_95 : decode cX12_readWord 95 = .ok (.iadd, 1) := by decide +kernel
theorem dX12_readWord_96 : decode cX12_readWord 96 = .ok (.baload, 1) := by decide +kernel
theorem dX12_readWord_97 : decode cX12_readWord 97 = .ok (.aload_n 0, 1) := by decide +kernel
theorem dX12_readWord_98 : decode cX12_readWord 98 = .ok (.getfield 250, 3) := by decide +kernel
theorem dX12_readWord_101 : decode cX12_readWord 101 = .ok (.aload_n 0, 1) := by decide +kernel
theorem dX12_readWord_102 : decode cX12_readWord 102 = .ok (.getfield 244, 3) := by decide +kernel
theorem dX12_readWord_105 : decode cX12_readWord 105 = .ok (.iload_n 1, 1) := by decide +kernel
theorem dX12_readWord_106 : decode cX12_readWord 106 = .ok (.iaload, 1) := by decide +kernel
theorem dX12_readWord_107 : decode cX12_readWord 107 = .ok (.iload 4, 2) := by decide +kernel
theorem dX12_readWord_109 : decode cX12_readWord 109 = .ok (.iadd, 1) := by decide +kernel
theorem dX12_readWord_110 : decode cX12_readWord 110 = .ok (.caload, 1) := by decide +kernel
theorem dX12_readWord_111 : decode cX12_readWord 111 = .ok (.if_icmp .ne 7, 3) := by decide +kernel
theorem dX12_readWord_114 : decode cX12_readWord 114 = .ok (.iconst 1, 1) := by decide +kernel
theorem dX12_readWord_115 : decode cX12_readWord 115 = .ok (.goto 4, 3) := by decide +kernel
theorem dX12_readWord_118 : decode cX12_readWord 118 = .ok (.iconst 0, 1) := by decide +kernel
theorem dX12_readWord_119 : decode cX12_readWord 119 = .ok (.istore_n 3, 1) := by decide +kernel
theorem dX12_readWord_120 : decode cX12_readWord 120 = .ok (.iinc 4 1, 3) := by decide +kernel
theorem dX12_readWord_123 : decode cX12_readWord 123 = .ok (.goto (-48), 3) := by decide +kernel
theorem dX12_readWord_126 : decode cX12_readWord 126 = .ok (.iload_n 3, 1) := by decide +kernel
theorem dX12_readWord_127 : decode cX12_readWord 127 = .ok (.ifCond .eq 36, 3) := by decide +kernel
theorem dX12_readWord_130 : decode cX12_readWord 130 = .ok (.aload_n 0, 1) := by decide +kernel
theorem dX12_readWord_131 : decode cX12_readWord 131 = .ok (.iload_n 1, 1) := by decide +kernel
theorem dX12_readWord_132 : decode cX12_readWord 132 = .ok (.bipush 6, 2) := by decide +kernel
theorem dX12_readWord_134 : decode cX12_readWord 134 = .ok (.if_icmp .ge 7, 3) := by decide +kernel
theorem dX12_readWord_137 : decode cX12_readWord 137 = .ok (.iconst 2, 1) := by decide +kernel
theorem dX12_readWord_138 : decode cX12_readWord 138 = .ok (.goto 4, 3) := by decide +kernel
theorem dX12_readWord_141 : decode cX12_readWord 141 = .ok (.iconst 4, 1) := by decide +kernel
theorem dX12_readWord_142 : decode cX12_readWord 142 = .ok (.putfield 241, 3) := by decide +kernel
theorem dX12_readWord_145 : decode cX12_readWord 145 = .ok (.aload_n 0, 1) := by decide +kernel
theorem dX12_readWord_146 : decode cX12_readWord 146 = .ok (.iload_n 1, 1) := by decide +kernel
theorem dX12_readWord_147 : decode cX12_readWord 147 = .ok (.bipush 6, 2) := by decide +kernel
theorem dX12_readWord_149 : decode cX12_readWord 149 = .ok (.if_icmp .ge 7, 3) := by decide +kernel
theorem dX12_readWord_152 : decode cX12_readWord 152 = .ok (.iload_n 1, 1) := by decide +kernel
theorem dX12_readWord_153 : decode cX12_readWord 153 = .ok (.goto 7, 3) := by decide +kernel
theorem dX12_readWord_156 : decode cX12_readWord 156 = .ok (.iload_n 1, 1) := by decide +kernel
theorem dX12_readWord_157 : decode cX12_readWord 157 = .ok (.bipush 6, 2) := by decide +kernel
theorem dX12_readWord_159 : decode cX12_readWord 159 = .ok (.isub, 1) := by decide +kernel
theorem dX12_readWord_160 : decode cX12_readWord 160 = .ok (.putfield 254, 3) := by decide +kernel
theorem dX12_readWord_163 : decode cX12_readWord 163 = .ok (.iinc 1 1, 3) := by decide +kernel
theorem dX12_readWord_166 : decode cX12_readWord 166 = .ok (.goto (-135), 3) := by decide +kernel
theorem dX12_readWord_169 : decode cX12_readWord 169 = .ok (.return_, 1) := by decide +kernel
theorem dX12_readNumber_0 : decode cX12_readNumber 0 = .ok (.aload_n 0, 1) := by decide +kernel
theorem dX12_readNumber_1 : decode cX12_readNumber 1 = .ok (.iconst 0, 1) := by decide +kernel
theorem dX12_readNumber_2 : decode cX12_readNumber 2 = .ok (.putfield 254, 3) := by decide +kernel
theorem dX12_readNumber_5 : decode cX12_readNumber 5 = .ok (.aload_n 0, 1) := by decide +kernel
theorem dX12_readNumber_6 : decode cX12_readNumber 6 = .ok (.aload_n 0, 1) := by decide +kernel
theorem dX12_readNumber_7 : decode cX12_readNumber 7 = .ok (.getfield 235, 3) := by decide +kernel
theorem dX12_readNumber_10 : decode cX12_readNumber 10 = .ok (.invokevirtual 257, 3) := by decide +kernel
theorem dX12_readNumber_13 : decode cX12_readNumber 13 = .ok (.ifCond .eq 60, 3) := by decide +kernel
theorem dX12_readNumber_16 : decode cX12_readNumber 16 = .ok (.aload_n 0, 1) := by decide +kernel
theorem dX12_readNumber_17 : decode cX12_readNumber 17 = .ok (.aload_n 0, 1) := by decide +kernel
theorem dX12_readNumber_18 : decode cX12_readNumber 18 = .ok (.getfield 235, 3) := by decide +kernel
theorem dX12_readNumber_21 : decode cX12_readNumber 21 = .ok (.aload_n 0, 1) := by decide +kernel
theorem dX12_readNumber_22 : decode cX12_readNumber 22 = .ok (.getfield 247, 3) := by decide +kernel
theorem dX12_readNumber_25 : decode cX12_readNumber 25 = .ok (.isub, 1) := by decide +kernel
theorem dX12_readNumber_26 : decode cX12_readNumber 26 = .ok (.iconst 4, 1) := by decide +kernel
theorem dX12_readNumber_27 : decode cX12_readNumber 27 = .ok (.if_icmp .ge 26, 3) := by decide +kernel
theorem dX12_readNumber_30 : decode cX12_readNumber 30 = .ok (.bipush 10, 2) := by decide +kernel
theorem dX12_readNumber_32 : decode cX12_readNumber 32 = .ok (.aload_n 0, 1) := by decide +kernel
theorem dX12_readNumber_33 : decode cX12_readNumber 33 = .ok (.getfield 254, 3) := by decide +kernel
theorem dX12_readNumber_36 : decode cX12_readNumber 36 = .ok (.imul, 1) := by decide +kernel
theorem dX12_readNumber_37 : decode cX12_readNumber 37 = .ok (.aload_n 0, 1) := by decide +kernel
theorem dX12_readNumber_38 : decode cX12_readNumber 38 = .ok (.getfield 231, 3) := by decide +kernel
theorem dX12_readNumber_41 : decode cX12_readNumber 41 = .ok (.aload_n 0, 1) := by decide +kernel
theorem dX12_readNumber_42 : decode cX12_readNumber 42 = .ok (.getfield 235, 3) := by decide +kernel
theorem dX12_readNumber_45 : decode cX12_readNumber 45 = .ok (.baload, 1) := by decide +kernel
theorem dX12_readNumber_46 : decode cX12_readNumber 46 = .ok (.iadd, 1) := by decide +kernel
theorem dX12_readNumber_47 : decode cX12_readNumber 47 = .ok (.bipush 48, 2) := by decide +kernel
theorem dX12_readNumber_49 : decode cX12_readNumber 49 = .ok (.isub, 1) := by decide +kernel
theorem dX12_readNumber_50 : decode cX12_readNumber 50 = .ok (.goto 7, 3) := by decide +kernel
theorem dX12_readNumber_53 : decode cX12_readNumber 53 = .ok (.aload_n 0, 1) := by decide +kernel
theorem dX12_readNumber_54 : decode cX12_readNumber 54 = .ok (.getfield 254, 3) := by decide +kernel
theorem dX12_readNumber_57 : decode cX12_readNumber 57 = .ok (.putfield 254, 3) := by decide +kernel
theorem dX12_readNumber_60 : decode cX12_readNumber 60 = .ok (.aload_n 0, 1) := by decide +kernel
theorem dX12_readNumber_61 : decode cX12_readNumber 61 = .ok (.dup, 1) := by decide +kernel
theorem dX12_readNumber_62 : decode cX12_readNumber 62 = .ok (.getfield 235, 3) := by decide +kernel
theorem dX12_readNumber_65 : decode cX12_readNumber 65 = .ok (.iconst 1, 1) := by decide +kernel
theorem dX12_readNumber_66 : decode cX12_readNumber 66 = .ok (.iadd, 1) := by decide +kernel
theorem dX12_readNumber_67 : decode cX12_readNumber 67 = .ok (.putfield 235, 3) := by decide +kernel
theorem dX12_readNumber_70 : decode cX12_readNumber 70 = .ok (.goto (-65), 3) := by decide +kernel
theorem dX12_readNumber_73 : decode cX12_readNumber 73 = .ok (.aload_n 0, 1) := by decide +kernel
theorem dX12_readNumber_74 : decode cX12_readNumber 74 = .ok (.aload_n 0, 1) := by decide +kernel
theorem dX12_readNumber_75 : decode cX12_readNumber 75 = .ok (.getfield 235, 3) := by decide +kernel
theorem dX12_readNumber_78 : decode cX12_readNumber 78 = .ok (.aload_n 0, 1) := by decide +kernel
theorem dX12_readNumber_79 : decode cX12_readNumber 79 = .ok (.getfield 247, 3) := by decide +kernel
theorem dX12_readNumber_82 : decode cX12_readNumber 82 = .ok (.isub, 1) := by decide +kernel
theorem dX12_readNumber_83 : decode cX12_readNumber 83 = .ok (.iconst 4, 1) := by decide +kernel
theorem dX12_readNumber_84 : decode cX12_readNumber 84 = .ok (.if_icmp .le 7, 3) := by decide +kernel
theorem dX12_readNumber_87 : decode cX12_readNumber 87 = .ok (.iconst 5, 1) := by decide +kernel
theorem dX12_readNumber_88 : decode cX12_readNumber 88 = .ok (.goto 4, 3) := by decide +kernel
theorem dX12_readNumber_91 : decode cX12_readNumber 91 = .ok (.iconst 1, 1) := by decide +kernel
theorem dX12_readNumber_92 : decode cX12_readNumber 92 = .ok (.putfield 241, 3) := by decide +kernel
theorem dX12_readNumber_95 : decode cX12_readNumber 95 = .ok (.return_, 1) := by decide +kernel
theorem dX12_next_0 : decode cX12_next 0 = .ok (.aload_n 0, 1) := by decide +kernel
theorem dX12_next_1 : decode cX12_next 1 = .ok (.getfield 235, 3) := by decide +kernel
theorem dX12_next_4 : decode cX12_next 4 = .ok (.aload_n 0, 1) := by decide +kernel
theorem dX12_next_5 : decode cX12_next 5 = .ok (.getfield 228, 3) := by decide +kernel
theorem dX12_next_8 : decode cX12_next 8 = .ok (.if_icmp .ge 44, 3) := by decide +kernel
theorem dX12_next_11 : decode cX12_next 11 = .ok (.aload_n 0, 1) := by decide +kernel
theorem dX12_next_12 : decode cX12_next 12 = .ok (.getfield 231, 3) := by decide +kernel
theorem dX12_next_15 : decode cX12_next 15 = .ok (.aload_n 0, 1) := by decide +kernel
theorem dX12_next_16 : decode cX12_next 16 = .ok (.getfield 235, 3) := by decide +kernel
theorem dX12_next_19 : decode cX12_next 19 = .ok (.baload, 1) := by decide +kernel
theorem dX12_next_20 : decode cX12_next 20 = .ok (.bipush 32, 2) := by decide +kernel
theorem dX12_next_22 : decode cX12_next 22 = .ok (.if_icmp .eq 17, 3) := by decide +kernel
theorem dX12_next_25 : decode cX12_next 25 = .ok (.aload_n 0, 1) := by decide +kernel
theorem dX12_next_26 : decode cX12_next 26 = .ok (.getfield 231, 3) := by decide +kernel
theorem dX12_next_29 : decode cX12_next 29 = .ok (.aload_n 0, 1) := by decide +kernel
theorem dX12_next_30 : decode cX12_next 30 = .ok (.getfield 235, 3) := by decide +kernel
theorem dX12_next_33 : decode cX12_next 33 = .ok (.baload, 1) := by decide +kernel
theorem dX12_next_34 : decode cX12_next 34 = .ok (.bipush 10, 2) := by decide +kernel
theorem dX12_next_36 : decode cX12_next 36 = .ok (.if_icmp .ne 16, 3) := by decide +kernel
theorem dX12_next_39 : decode cX12_next 39 = .ok (.aload_n 0, 1) := by decide +kernel
theorem dX12_next_40 : decode cX12_next 40 = .ok (.dup, 1) := by decide +kernel
theorem dX12_next_41 : decode cX12_next 41 = .ok (.getfield 235, 3) := by decide +kernel
theorem dX12_next_44 : decode cX12_next 44 = .ok (.iconst 1, 1) := by decide +kernel
theorem dX12_next_45 : decode cX12_next 45 = .ok (.iadd, 1) := by decide +kernel
theorem dX12_next_46 : decode cX12_next 46 = .ok (.putfield 235, 3) := by decide +kernel
theorem dX12_next_49 : decode cX12_next 49 = .ok (.goto (-49), 3) := by decide +kernel
theorem dX12_next_52 : decode cX12_next 52 = .ok (.aload_n 0, 1) := by decide +kernel
theorem dX12_next_53 : decode cX12_next 53 = .ok (.aload_n 0, 1) := by decide +kernel
theorem dX12_next_54 : decode cX12_next 54 = .ok (.getfield 235, 3) := by decide +kernel
theorem dX12_next_57 : decode cX12_next 57 = .ok (.putfield 247, 3) := by decide +kernel
theorem dX12_next_60 : decode cX12_next 60 = .ok (.aload_n 0, 1) := by decide +kernel
theorem dX12_next_61 : decode cX12_next 61 = .ok (.getfield 235, 3) := by decide +kernel
theorem dX12_next_64 : decode cX12_next 64 = .ok (.aload_n 0, 1) := by decide +kernel
theorem dX12_next_65 : decode cX12_next 65 = .ok (.getfield 228, 3) := by decide +kernel
theorem dX12_next_68 : decode cX12_next 68 = .ok (.if_icmp .ne 11, 3) := by decide +kernel
theorem dX12_next_71 : decode cX12_next 71 = .ok (.aload_n 0, 1) := by decide +kernel
theorem dX12_next_72 : decode cX12_next 72 = .ok (.iconst 0, 1) := by decide +kernel
theorem dX12_next_73 : decode cX12_next 73 = .ok (.putfield 241, 3) := by decide +kernel
theorem dX12_next_76 : decode cX12_next 76 = .ok (.goto 153, 3) := by decide +kernel
theorem dX12_next_79 : decode cX12_next 79 = .ok (.aload_n 0, 1) := by decide +kernel
theorem dX12_next_80 : decode cX12_next 80 = .ok (.aload_n 0, 1) := by decide +kernel
theorem dX12_next_81 : decode cX12_next 81 = .ok (.getfield 235, 3) := by decide +kernel
theorem dX12_next_84 : decode cX12_next 84 = .ok (.invokevirtual 238, 3) := by decide +kernel
theorem dX12_next_87 : decode cX12_next 87 = .ok (.ifCond .eq 10, 3) := by decide +kernel
theorem dX12_next_90 : decode cX12_next 90 = .ok (.aload_n 0, 1) := by decide +kernel
theorem dX12_next_91 : decode cX12_next 91 = .ok (.invokevirtual 260, 3) := by decide +kernel
theorem dX12_next_94 : decode cX12_next 94 = .ok (.goto 135, 3) := by decide +kernel
theorem dX12_next_97 : decode cX12_next 97 = .ok (.aload_n 0, 1) := by decide +kernel
theorem dX12_next_98 : decode cX12_next 98 = .ok (.aload_n 0, 1) := by decide +kernel
theorem dX12_next_99 : decode cX12_next 99 = .ok (.getfield 235, 3) := by decide +kernel
theorem dX12_next_102 : decode cX12_next 102 = .ok (.invokevirtual 257, 3) := by decide +kernel
theorem dX12_next_105 : decode cX12_next 105 = .ok (.ifCond .eq 10, 3) := by decide +kernel
theorem dX12_next_108 : decode cX12_next 108 = .ok (.aload_n 0, 1) := by decide +kernel
theorem dX12_next_109 : decode cX12_next 109 = .ok (.invokevirtual 263, 3) := by decide +kernel
theorem dX12_next_112 : decode cX12_next 112 = .ok (.goto 117, 3) := by decide +kernel
theorem dX12_next_115 : decode cX12_next 115 = .ok (.aload_n 0, 1) := by decide +kernel
theorem dX12_next_116 : decode cX12_next 116 = .ok (.aload_n 0, 1) := by decide +kernel
theorem dX12_next_117 : decode cX12_next 117 = .ok (.getfield 231, 3) := by decide +kernel
theorem dX12_next_120 : decode cX12_next 120 = .ok (.aload_n 0, 1) := by decide +kernel
theorem dX12_next_121 : decode cX12_next 121 = .ok (.getfield 235, 3) := by decide +kernel
theorem dX12_next_124 : decode cX12_next 124 = .ok (.baload, 1) := by decide +kernel
theorem dX12_next_125 : decode cX12_next 125 = .ok (.putfield 254, 3) := by decide +kernel
theorem dX12_next_128 : decode cX12_next 128 = .ok (.aload_n 0, 1) := by decide +kernel
theorem dX12_next_129 : decode cX12_next 129 = .ok (.getfield 254, 3) := by decide +kernel
theorem dX12_next_132 : decode cX12_next 132 = .ok (.bipush 40, 2) := by decide +kernel
theorem dX12_next_134 : decode cX12_next 134 = .ok (.if_icmp .eq 66, 3) := by decide +kernel
theorem dX12_next_137 : decode cX12_next 137 = .ok (.aload_n 0, 1) := by decide +kernel
theorem dX12_next_138 : decode cX12_next 138 = .ok (.getfield 254, 3) := by decide +kernel
theorem dX12_next_141 : decode cX12_next 141 = .ok (.bipush 41, 2) := by decide +kernel
theorem dX12_next_143 : decode cX12_next 143 = .ok (.if_icmp .eq 57, 3) := by decide +kernel
theorem dX12_next_146 : decode cX12_next 146 = .ok (.aload_n 0, 1) := by decide +kernel
theorem dX12_next_147 : decode cX12_next 147 = .ok (.getfield 254, 3) := by decide +kernel
theorem dX12_next_150 : decode cX12_next 150 = .ok (.bipush 59, 2) := by decide +kernel
theorem dX12_next_152 : decode cX12_next 152 = .ok (.if_icmp .eq 48, 3) := by decide +kernel
theorem dX12_next_155 : decode cX12_next 155 = .ok (.aload_n 0, 1) := by decide +kernel
theorem dX12_next_156 : decode cX12_next 156 = .ok (.getfield 254, 3) := by decide +kernel
theorem dX12_next_159 : decode cX12_next 159 = .ok (.bipush 43, 2) := by decide +kernel
theorem dX12_next_161 : decode cX12_next 161 = .ok (.if_icmp .eq 39, 3) := by decide +kernel
theorem dX12_next_164 : decode cX12_next 164 = .ok (.aload_n 0, 1) := by decide +kernel
theorem dX12_next_165 : decode cX12_next 165 = .ok (.getfield 254, 3) := by decide +kernel
theorem dX12_next_168 : decode cX12_next 168 = .ok (.bipush 45, 2) := by decide +kernel
theorem dX12_next_170 : decode cX12_next 170 = .ok (.if_icmp .eq 30, 3) := by decide +kernel
theorem dX12_next_173 : decode cX12_next 173 = .ok (.aload_n 0, 1) := by decide +kernel
theorem dX12_next_174 : decode cX12_next 174 = .ok (.getfield 254, 3) := by decide +kernel
theorem dX12_next_177 : decode cX12_next 177 = .ok (.bipush 42, 2) := by decide +kernel
theorem dX12_next_179 : decode cX12_next 179 = .ok (.if_icmp .eq 21, 3) := by decide +kernel
theorem dX12_next_182 : decode cX12_next 182 = .ok (.aload_n 0, 1) := by decide +kernel
theorem dX12_next_183 : decode cX12_next 183 = .ok (.getfield 254, 3) := by decide +kernel
theorem dX12_next_186 : decode cX12_next 186 = .ok (.bipush 60, 2) := by decide +kernel
theorem dX12_next_188 : decode cX12_next 188 = .ok (.if_icmp .eq 12, 3) := by decide +kernel
theorem dX12_next_191 : decode cX12_next 191 = .ok (.aload_n 0, 1) := by decide +kernel
theorem dX12_next_192 : decode cX12_next 192 = .ok (.getfield 254, 3) := by decide +kernel
theorem dX12_next_195 : decode cX12_next 195 = .ok (.bipush 61, 2) := by decide +kernel
theorem dX12_next_197 : decode cX12_next 197 = .ok (.if_icmp .ne 7, 3) := by decide +kernel
theorem dX12_next_200 : decode cX12_next 200 = .ok (.iconst 1, 1) := by decide +kernel
theorem dX12_next_201 : decode cX12_next 201 = .ok (.goto 4, 3) := by decide +kernel
theorem dX12_next_204 : decode cX12_next 204 = .ok (.iconst 0, 1) := by decide +kernel
theorem dX12_next_205 : decode cX12_next 205 = .ok (.istore_n 1, 1) := by decide +kernel
theorem dX12_next_206 : decode cX12_next 206 = .ok (.aload_n 0, 1) := by decide +kernel
theorem dX12_next_207 : decode cX12_next 207 = .ok (.iload_n 1, 1) := by decide +kernel
theorem dX12_next_208 : decode cX12_next 208 = .ok (.ifCond .eq 7, 3) := by decide +kernel
theorem dX12_next_211 : decode cX12_next 211 = .ok (.iconst 3, 1) := by decide +kernel
theorem dX12_next_212 : decode cX12_next 212 = .ok (.goto 4, 3) := by decide +kernel
theorem dX12_next_215 : decode cX12_next 215 = .ok (.iconst 5, 1) := by decide +kernel
theorem dX12_next_216 : decode cX12_next 216 = .ok (.putfield 241, 3) := by decide +kernel
theorem dX12_next_219 : decode cX12_next 219 = .ok (.aload_n 0, 1) := by decide +kernel
theorem dX12_next_220 : decode cX12_next 220 = .ok (.dup, 1) := by decide +kernel
theorem dX12_next_221 : decode cX12_next 221 = .ok (.getfield 235, 3) := by decide +kernel
theorem dX12_next_224 : decode cX12_next 224 = .ok (.iconst 1, 1) := by decide +kernel
theorem dX12_next_225 : decode cX12_next 225 = .ok (.iadd, 1) := by decide +kernel
theorem dX12_next_226 : decode cX12_next 226 = .ok (.putfield 235, 3) := by decide +kernel
theorem dX12_next_229 : decode cX12_next 229 = .ok (.return_, 1) := by decide +kernel
theorem dX12_isSign_0 : decode cX12_isSign 0 = .ok (.aload_n 0, 1) := by decide +kernel
theorem dX12_isSign_1 : decode cX12_isSign 1 = .ok (.getfield 241, 3) := by decide +kernel
theorem dX12_isSign_4 : decode cX12_isSign 4 = .ok (.iconst 3, 1) := by decide +kernel
theorem dX12_isSign_5 : decode cX12_isSign 5 = .ok (.if_icmp .ne 15, 3) := by decide +kernel
theorem dX12_isSign_8 : decode cX12_isSign 8 = .ok (.aload_n 0, 1) := by decide +kernel
theorem dX12_isSign_9 : decode cX12_isSign 9 = .ok (.getfield 254, 3) := by decide +kernel
theorem dX12_isSign_12 : decode cX12_isSign 12 = .ok (.iload_n 1, 1) := by decide +kernel
theorem dX12_isSign_13 : decode cX12_isSign 13 = .ok (.if_icmp .ne 7, 3) := by decide +kernel
theorem dX12_isSign_16 : decode cX12_isSign 16 = .ok (.iconst 1, 1) := by decide +kernel
theorem dX12_isSign_17 : decode cX12_isSign 17 = .ok (.goto 4, 3) := by decide +kernel
theorem dX12_isSign_20 : decode cX12_isSign 20 = .ok (.iconst 0, 1) := by decide +kernel
theorem dX12_isSign_21 : decode cX12_isSign 21 = .ok (.ireturn, 1) := by decide +kernel
theorem dX12_isKey_0 : decode cX12_isKey 0 = .ok (.aload_n 0, 1) := by decide +kernel
theorem dX12_isKey_1 : decode cX12_isKey 1 = .ok (.getfield 241, 3) := by decide +kernel
theorem dX12_isKey_4 : decode cX12_isKey 4 = .ok (.iconst 4, 1) := by decide +kernel
theorem dX12_isKey_5 : decode cX12_isKey 5 = .ok (.if_icmp .ne 15, 3) := by decide +kernel
theorem dX12_isKey_8 : decode cX12_isKey 8 = .ok (.aload_n 0, 1) := by decide +kernel
theorem dX12_isKey_9 : decode cX12_isKey 9 = .ok (.getfield 254, 3) := by decide +kernel
theorem dX12_isKey_12 : decode cX12_isKey 12 = .ok (.iload_n 1, 1) := by decide +kernel
theorem dX12_isKey_13 : decode cX12_isKey 13 = .ok (.if_icmp .ne 7, 3) := by decide +kernel
theorem dX12_isKey_16 : decode cX12_isKey 16 = .ok (.iconst 1, 1) := by decide +kernel
theorem dX12_isKey_17 : decode cX12_isKey 17 = .ok (.goto 4, 3) := by decide +kernel
theorem dX12_isKey_20 : decode cX12_isKey 20 = .ok (.iconst 0, 1) := by decide +kernel
theorem dX12_isKey_21 : decode cX12_isKey 21 = .ok (.ireturn, 1) := by decide +kernel
theorem dX12_emit_0 : decode cX12_emit 0 = .ok (.aload_n 0, 1) := by decide +kernel
theorem dX12_emit_1 : decode cX12_emit 1 = .ok (.getfield 266, 3) := by decide +kernel
theorem dX12_emit_4 : decode cX12_emit 4 = .ok (.aload_n 0, 1) := by decide +kernel
theorem dX12_emit_5 : decode cX12_emit 5 = .ok (.getfield 269, 3) := by decide +kernel
theorem dX12_emit_8 : decode cX12_emit 8 = .ok (.aload_n 0, 1) := by decide +kernel
theorem dX12_emit_9 : decode cX12_emit 9 = .ok (.getfield 272, 3) := by decide +kernel
theorem dX12_emit_12 : decode cX12_emit 12 = .ok (.iadd, 1) := by decide +kernel
theorem dX12_emit_13 : decode cX12_emit 13 = .ok (.iload_n 1, 1) := by decide +kernel
theorem dX12_emit_14 : decode cX12_emit 14 = .ok (.iastore, 1) := by decide +kernel
theorem dX12_emit_15 : decode cX12_emit 15 = .ok (.aload_n 0, 1) := by decide +kernel
theorem dX12_emit_16 : decode cX12_emit 16 = .ok (.dup, 1) := by decide +kernel
theorem dX12_emit_17 : decode cX12_emit 17 = .ok (.getfield 272, 3) := by decide +kernel
theorem dX12_emit_20 : decode cX12_emit 20 = .ok (.iconst 1, 1) := by decide +kernel
theorem dX12_emit_21 : decode cX12_emit 21 = .ok (.iadd, 1) := by decide +kernel
theorem dX12_emit_22 : decode cX12_emit 22 = .ok (.putfield 272, 3) := by decide +kernel
theorem dX12_emit_25 : decode cX12_emit 25 = .ok (.return_, 1) := by decide +kernel
theorem dX12_rank_0 : decode cX12_rank 0 = .ok (.iload_n 0, 1) := by decide +kernel
theorem dX12_rank_1 : decode cX12_rank 1 = .ok (.bipush 12, 2) := by decide +kernel
theorem dX12_rank_3 : decode cX12_rank 3 = .ok (.if_icmp .ne 7, 3) := by decide +kernel
theorem dX12_rank_6 : decode cX12_rank 6 = .ok (.iconst 1, 1) := by decide +kernel
theorem dX12_rank_7 : decode cX12_rank 7 = .ok (.goto 78, 3) := by decide +kernel
theorem dX12_rank_10 : decode cX12_rank 10 = .ok (.iload_n 0, 1) := by decide +kernel
theorem dX12_rank_11 : decode cX12_rank 11 = .ok (.bipush 11, 2) := by decide +kernel
theorem dX12_rank_13 : decode cX12_rank 13 = .ok (.if_icmp .ne 7, 3) := by decide +kernel
theorem dX12_rank_16 : decode cX12_rank 16 = .ok (.iconst 2, 1) := by decide +kernel
theorem dX12_rank_17 : decode cX12_rank 17 = .ok (.goto 68, 3) := by decide +kernel
theorem dX12_rank_20 : decode cX12_rank 20 = .ok (.iload_n 0, 1) := by decide +kernel
theorem dX12_rank_21 : decode cX12_rank 21 = .ok (.bipush 13, 2) := by decide +kernel
theorem dX12_rank_23 : decode cX12_rank 23 = .ok (.if_icmp .ne 7, 3) := by decide +kernel
theorem dX12_rank_26 : decode cX12_rank 26 = .ok (.iconst 3, 1) := by decide +kernel
theorem dX12_rank_27 : decode cX12_rank 27 = .ok (.goto 58, 3) := by decide +kernel
theorem dX12_rank_30 : decode cX12_rank 30 = .ok (.iload_n 0, 1) := by decide +kernel
theorem dX12_rank_31 : decode cX12_rank 31 = .ok (.bipush 9, 2) := by decide +kernel
theorem dX12_rank_33 : decode cX12_rank 33 = .ok (.if_icmp .eq 9, 3) := by decide +kernel
theorem dX12_rank_36 : decode cX12_rank 36 = .ok (.iload_n 0, 1) := by decide +kernel
theorem dX12_rank_37 : decode cX12_rank 37 = .ok (.bipush 10, 2) := by decide +kernel
theorem dX12_rank_39 : decode cX12_rank 39 = .ok (.if_icmp .ne 7, 3) := by decide +kernel
theorem dX12_rank_42 : decode cX12_rank 42 = .ok (.iconst 4, 1) := by decide +kernel
theorem dX12_rank_43 : decode cX12_rank 43 = .ok (.goto 42, 3) := by decide +kernel
theorem dX12_rank_46 : decode cX12_rank 46 = .ok (.iload_n 0, 1) := by decide +kernel
theorem dX12_rank_47 : decode cX12_rank 47 = .ok (.bipush 6, 2) := by decide +kernel
theorem dX12_rank_49 : decode cX12_rank 49 = .ok (.if_icmp .eq 9, 3) := by decide +kernel
theorem dX12_rank_52 : decode cX12_rank 52 = .ok (.iload_n 0, 1) := by decide +kernel
theorem dX12_rank_53 : decode cX12_rank 53 = .ok (.bipush 7, 2) := by decide +kernel
theorem dX12_rank_55 : decode cX12_rank 55 = .ok (.if_icmp .ne 7, 3) := by decide +kernel
theorem dX12_rank_58 : decode cX12_rank 58 = .ok (.iconst 5, 1) := by decide +kernel
theorem dX12_rank_59 : decode cX12_rank 59 = .ok (.goto 26, 3) := by decide +kernel
theorem dX12_rank_62 : decode cX12_rank 62 = .ok (.iload_n 0, 1) := by decide +kernel
theorem dX12_rank_63 : decode cX12_rank 63 = .ok (.bipush 8, 2) := by decide +kernel
theorem dX12_rank_65 : decode cX12_rank 65 = .ok (.if_icmp .ne 8, 3) := by decide +kernel
theorem dX12_rank_68 : decode cX12_rank 68 = .ok (.bipush 6, 2) := by decide +kernel
theorem dX12_rank_70 : decode cX12_rank 70 = .ok (.goto 15, 3) := by decide +kernel
theorem dX12_rank_73 : decode cX12_rank 73 = .ok (.iload_n 0, 1) := by decide +kernel
theorem dX12_rank_74 : decode cX12_rank 74 = .ok (.bipush 14, 2) := by decide +kernel
theorem dX12_rank_76 : decode cX12_rank 76 = .ok (.if_icmp .ne 8, 3) := by decide +kernel
theorem dX12_rank_79 : decode cX12_rank 79 = .ok (.bipush 7, 2) := by decide +kernel
theorem dX12_rank_81 : decode cX12_rank 81 = .ok (.goto 4, 3) := by decide +kernel
theorem dX12_rank_84 : decode cX12_rank 84 = .ok (.iconst 0, 1) := by decide +kernel
theorem dX12_rank_85 : decode cX12_rank 85 = .ok (.ireturn, 1) := by decide +kernel
theorem dX12_doAll_0 : decode cX12_doAll 0 = .ok (.aload_n 0, 1) := by decide +kernel
theorem dX12_doAll_1 : decode cX12_doAll 1 = .ok (.getfield 275, 3) := by decide +kernel
theorem dX12_doAll_4 : decode cX12_doAll 4 = .ok (.ifCond .le 105, 3) := by decide +kernel
theorem dX12_doAll_7 : decode cX12_doAll 7 = .ok (.aload_n 0, 1) := by decide +kernel
theorem dX12_doAll_8 : decode cX12_doAll 8 = .ok (.getfield 278, 3) := by decide +kernel
theorem dX12_doAll_11 : decode cX12_doAll 11 = .ok (.aload_n 0, 1) := by decide +kernel
theorem dX12_doAll_12 : decode cX12_doAll 12 = .ok (.getfield 275, 3) := by decide +kernel
theorem dX12_doAll_15 : decode cX12_doAll 15 = .ok (.iconst 1, 1) := by decide +kernel
theorem dX12_doAll_16 : decode cX12_doAll 16 = .ok (.isub, 1) := by decide +kernel
theorem dX12_doAll_17 : decode cX12_doAll 17 = .ok (.iaload, 1) := by decide +kernel
theorem dX12_doAll_18 : decode cX12_doAll 18 = .ok (.bipush 15, 2) := by decide +kernel
theorem dX12_doAll_20 : decode cX12_doAll 20 = .ok (.if_icmp .eq 89, 3) := by decide +kernel
theorem dX12_doAll_23 : decode cX12_doAll 23 = .ok (.aload_n 0, 1) := by decide +kernel
theorem dX12_doAll_24 : decode cX12_doAll 24 = .ok (.getfield 278, 3) := by decide +kernel
theorem dX12_doAll_27 : decode cX12_doAll 27 = .ok (.aload_n 0, 1) := by decide +kernel
theorem dX12_doAll_28 : decode cX12_doAll 28 = .ok (.getfield 275, 3) := by decide +kernel
theorem dX12_doAll_31 : decode cX12_doAll 31 = .ok (.iconst 1, 1) := by decide +kernel
theorem dX12_doAll_32 : decode cX12_doAll 32 = .ok (.isub, 1) := by decide +kernel
theorem dX12_doAll_33 : decode cX12_doAll 33 = .ok (.iaload, 1) := by decide +kernel
theorem dX12_doAll_34 : decode cX12_doAll 34 = .ok (.invokestatic 281, 3) := by decide +kernel
theorem dX12_doAll_37 : decode cX12_doAll 37 = .ok (.iload_n 1, 1) := by decide +kernel
theorem dX12_doAll_38 : decode cX12_doAll 38 = .ok (.if_icmp .lt 71, 3) := by decide +kernel
theorem dX12_doAll_41 : decode cX12_doAll 41 = .ok (.aload_n 0, 1) := by decide +kernel
theorem dX12_doAll_42 : decode cX12_doAll 42 = .ok (.dup, 1) := by decide +kernel
theorem dX12_doAll_43 : decode cX12_doAll 43 = .ok (.getfield 275, 3) := by decide +kernel
theorem dX12_doAll_46 : decode cX12_doAll 46 = .ok (.iconst 1, 1) := by decide +kernel
theorem dX12_doAll_47 : decode cX12_doAll 47 = .ok (.isub, 1) := by decide +kernel
theorem dX12_doAll_48 : decode cX12_doAll 48 = .ok (.putfield 275, 3) := by decide +kernel
theorem dX12_doAll_51 : decode cX12_doAll 51 = .ok (.aload_n 0, 1) := by decide +kernel
theorem dX12_doAll_52 : decode cX12_doAll 52 = .ok (.dup, 1) := by decide +kernel
theorem dX12_doAll_53 : decode cX12_doAll 53 = .ok (.getfield 284, 3) := by decide +kernel
theorem dX12_doAll_56 : decode cX12_doAll 56 = .ok (.aload_n 0, 1) := by decide +kernel
theorem dX12_doAll_57 : decode cX12_doAll 57 = .ok (.getfield 278, 3) := by decide +kernel
theorem dX12_doAll_60 : decode cX12_doAll 60 = .ok (.aload_n 0, 1) := by decide +kernel
theorem dX12_doAll_61 : decode cX12_doAll 61 = .ok (.getfield 275, 3) := by decide +kernel
theorem dX12_doAll_64 : decode cX12_doAll 64 = .ok (.iaload, 1) := by decide +kernel
theorem dX12_doAll_65 : decode cX12_doAll 65 = .ok (.bipush 13, 2) := by decide +kernel
theorem dX12_doAll_67 : decode cX12_doAll 67 = .ok (.if_icmp .eq 17, 3) := by decide +kernel
theorem dX12_doAll_70 : decode cX12_doAll 70 = .ok (.aload_n 0, 1) := by decide +kernel
theorem dX12_doAll_71 : decode cX12_doAll 71 = .ok (.getfield 278, 3) := by decide +kernel
theorem dX12_doAll_74 : decode cX12_doAll 74 = .ok (.aload_n 0, 1) := by decide +kernel
theorem dX12_doAll_75 : decode cX12_doAll 75 = .ok (.getfield 275, 3) := by decide +kernel
theorem dX12_doAll_78 : decode cX12_doAll 78 = .ok (.iaload, 1) := by decide +kernel
theorem dX12_doAll_79 : decode cX12_doAll 79 = .ok (.bipush 14, 2) := by decide +kernel
theorem dX12_doAll_81 : decode cX12_doAll 81 = .ok (.if_icmp .ne 7, 3) := by decide +kernel
theorem dX12_doAll_84 : decode cX12_doAll 84 = .ok (.iconst 1, 1) := by decide +kernel
theorem dX12_doAll_85 : decode cX12_doAll 85 = .ok (.goto 4, 3) := by decide +kernel
theorem dX12_doAll_88 : decode cX12_doAll 88 = .ok (.iconst 0, 1) := by decide +kernel
theorem dX12_doAll_89 : decode cX12_doAll 89 = .ok (.isub, 1) := by decide +kernel
theorem dX12_doAll_90 : decode cX12_doAll 90 = .ok (.putfield 284, 3) := by decide +kernel
theorem dX12_doAll_93 : decode cX12_doAll 93 = .ok (.aload_n 0, 1) := by decide +kernel
theorem dX12_doAll_94 : decode cX12_doAll 94 = .ok (.aload_n 0, 1) := by decide +kernel
theorem dX12_doAll_95 : decode cX12_doAll 95 = .ok (.getfield 278, 3) := by decide +kernel
theorem dX12_doAll_98 : decode cX12_doAll 98 = .ok (.aload_n 0, 1) := by decide +kernel
theorem dX12_doAll_99 : decode cX12_doAll 99 = .ok (.getfield 275, 3) := by decide +kernel
theorem dX12_doAll_102 : decode cX12_doAll 102 = .ok (.iaload, 1) := by decide +kernel
theorem dX12_doAll_103 : decode cX12_doAll 103 = .ok (.invokevirtual 287, 3) := by decide +kernel
theorem dX12_doAll_106 : decode cX12_doAll 106 = .ok (.goto (-106), 3) := by decide +kernel
theorem dX12_doAll_109 : decode cX12_doAll 109 = .ok (.return_, 1) := by decide +kernel
theorem dX12_await_0 : decode cX12_await 0 = .ok (.aload_n 0, 1) := by decide +kernel
theorem dX12_await_1 : decode cX12_await 1 = .ok (.getfield 278, 3) := by decide +kernel
theorem dX12_await_4 : decode cX12_await 4 = .ok (.aload_n 0, 1) := by decide +kernel
theorem dX12_await_5 : decode cX12_await 5 = .ok (.getfield 275, 3) := by decide +kernel
theorem dX12_await_8 : decode cX12_await 8 = .ok (.iload_n 1, 1) := by decide +kernel
theorem dX12_await_9 : decode cX12_await 9 = .ok (.iastore, 1) := by decide +kernel
theorem dX12_await_10 : decode cX12_await 10 = .ok (.aload_n 0, 1) := by decide +kernel
theorem dX12_await_11 : decode cX12_await 11 = .ok (.dup, 1) := by decide +kernel
theorem dX12_await_12 : decode cX12_await 12 = .ok (.getfield 275, 3) := by decide +kernel
theorem dX12_await_15 : decode cX12_await 15 = .ok (.iconst 1, 1) := by decide +kernel
theorem dX12_await_16 : decode cX12_await 16 = .ok (.iadd, 1) := by decide +kernel
theorem dX12_await_17 : decode cX12_await 17 = .ok (.putfield 275, 3) := by decide +kernel
theorem dX12_await_20 : decode cX12_await 20 = .ok (.return_, 1) := by decide +kernel
theorem dX12_between_0 : decode cX12_between 0 = .ok (.aload_n 0, 1) := by decide +kernel
theorem dX12_between_1 : decode cX12_between 1 = .ok (.bipush 43, 2) := by decide +kernel
theorem dX12_between_3 : decode cX12_between 3 = .ok (.invokevirtual 291, 3) := by decide +kernel
theorem dX12_between_6 : decode cX12_between 6 = .ok (.ifCond .eq 8, 3) := by decide +kernel
theorem dX12_between_9 : decode cX12_between 9 = .ok (.bipush 6, 2) := by decide +kernel
theorem dX12_between_11 : decode cX12_between 11 = .ok (.goto 86, 3) := by decide +kernel
theorem dX12_between_14 : decode cX12_between 14 = .ok (.aload_n 0, 1) := by decide +kernel
theorem dX12_between_15 : decode cX12_between 15 = .ok (.bipush 45, 2) := by decide +kernel
theorem dX12_between_17 : decode cX12_between 17 = .ok (.invokevirtual 291, 3) := by decide +kernel
theorem dX12_between_20 : decode cX12_between 20 = .ok (.ifCond .eq 8, 3) := by decide +kernel
theorem dX12_between_23 : decode cX12_between 23 = .ok (.bipush 7, 2) := by decide +kernel
theorem dX12_between_25 : decode cX12_between 25 = .ok (.goto 72, 3) := by decide +kernel
theorem dX12_between_28 : decode cX12_between 28 = .ok (.aload_n 0, 1) := by decide +kernel
theorem dX12_between_29 : decode cX12_between 29 = .ok (.bipush 42, 2) := by decide +kernel
theorem dX12_between_31 : decode cX12_between 31 = .ok (.invokevirtual 291, 3) := by decide +kernel
theorem dX12_between_34 : decode cX12_between 34 = .ok (.ifCond .eq 8, 3) := by decide +kernel
theorem dX12_between_37 : decode cX12_between 37 = .ok (.bipush 8, 2) := by decide +kernel
theorem dX12_between_39 : decode cX12_between 39 = .ok (.goto 58, 3) := by decide +kernel
theorem dX12_between_42 : decode cX12_between 42 = .ok (.aload_n 0, 1) := by decide +kernel
theorem dX12_between_43 : decode cX12_between 43 = .ok (.bipush 60, 2) := by decide +kernel
theorem dX12_between_45 : decode cX12_between 45 = .ok (.invokevirtual 291, 3) := by decide +kernel
theorem dX12_between_48 : decode cX12_between 48 = .ok (.ifCond .eq 8, 3) := by decide +kernel
theorem dX12_between_51 : decode cX12_between 51 = .ok (.bipush 9, 2) := by decide +kernel
theorem dX12_between_53 : decode cX12_between 53 = .ok (.goto 44, 3) := by decide +kernel
theorem dX12_between_56 : decode cX12_between 56 = .ok (.aload_n 0, 1) := by decide +kernel
theorem dX12_between_57 : decode cX12_between 57 = .ok (.bipush 61, 2) := by decide +kernel
theorem dX12_between_59 : decode cX12_between 59 = .ok (.invokevirtual 291, 3) := by decide +kernel
theorem dX12_between_62 : decode cX12_between 62 = .ok (.ifCond .eq 8, 3) := by decide +kernel
theorem dX12_between_65 : decode cX12_between 65 = .ok (.bipush 10, 2) := by decide +kernel
theorem dX12_between_67 : decode cX12_between 67 = .ok (.goto 30, 3) := by decide +kernel
theorem dX12_between_70 : decode cX12_between 70 = .ok (.aload_n 0, 1) := by decide +kernel
theorem dX12_between_71 : decode cX12_between 71 = .ok (.iconst 3, 1) := by decide +kernel
theorem dX12_between_72 : decode cX12_between 72 = .ok (.invokevirtual 294, 3) := by decide +kernel
theorem dX12_between_75 : decode cX12_between 75 = .ok (.ifCond .eq 8, 3) := by decide +kernel
theorem dX12_between_78 : decode cX12_between 78 = .ok (.bipush 11, 2) := by decide +kernel
theorem dX12_between_80 : decode cX12_between 80 = .ok (.goto 17, 3) := by decide +kernel
theorem dX12_between_83 : decode cX12_between 83 = .ok (.aload_n 0, 1) := by decide +kernel
theorem dX12_between_84 : decode cX12_between 84 = .ok (.iconst 2, 1) := by decide +kernel
theorem dX12_between_85 : decode cX12_between 85 = .ok (.invokevirtual 294, 3) := by decide +kernel
theorem dX12_between_88 : decode cX12_between 88 = .ok (.ifCond .eq 8, 3) := by decide +kernel
theorem dX12_between_91 : decode cX12_between 91 = .ok (.bipush 12, 2) := by decide +kernel
theorem dX12_between_93 : decode cX12_between 93 = .ok (.goto 4, 3) := by decide +kernel
theorem dX12_between_96 : decode cX12_between 96 = .ok (.iconst (-1), 1) := by decide +kernel
theorem dX12_between_97 : decode cX12_between 97 = .ok (.istore_n 1, 1) := by decide +kernel
theorem dX12_between_98 : decode cX12_between 98 = .ok (.iload_n 1, 1) := by decide +kernel
theorem dX12_between_99 : decode cX12_between 99 = .ok (.iconst (-1), 1) := by decide +kernel
theorem dX12_between_100 : decode cX12_between 100 = .ok (.if_icmp .eq 23, 3) := by decide +kernel
theorem dX12_between_103 : decode cX12_between 103 = .ok (.iload_n 1, 1) := by decide +kernel
theorem dX12_between_104 : decode cX12_between 104 = .ok (.invokestatic 281, 3) := by decide +kernel
theorem dX12_between_107 : decode cX12_between 107 = .ok (.iconst 4, 1) := by decide +kernel
theorem dX12_between_108 : decode cX12_between 108 = .ok (.if_icmp .ne 17, 3) := by decide +kernel
theorem dX12_between_111 : decode cX12_between 111 = .ok (.aload_n 0, 1) := by decide +kernel
theorem dX12_between_112 : decode cX12_between 112 = .ok (.getfield 297, 3) := by decide +kernel
theorem dX12_between_115 : decode cX12_between 115 = .ok (.aload_n 0, 1) := by decide +kernel
theorem dX12_between_116 : decode cX12_between 116 = .ok (.getfield 300, 3) := by decide +kernel
theorem dX12_between_119 : decode cX12_between 119 = .ok (.baload, 1) := by decide +kernel
theorem dX12_between_120 : decode cX12_between 120 = .ok (.ifCond .eq 5, 3) := by decide +kernel
theorem dX12_between_123 : decode cX12_between 123 = .ok (.iconst 0, 1) := by decide +kernel
theorem dX12_between_124 : decode cX12_between 124 = .ok (.ireturn, 1) := by decide +kernel
theorem dX12_between_125 : decode cX12_between 125 = .ok (.aload_n 0, 1) := by decide +kernel
theorem dX12_between_126 : decode cX12_between 126 = .ok (.iload_n 1, 1) := by decide +kernel
theorem dX12_between_127 : decode cX12_between 127 = .ok (.invokestatic 281, 3) := by decide +kernel
theorem dX12_between_130 : decode cX12_between 130 = .ok (.invokevirtual 303, 3) := by decide +kernel
theorem dX12_between_133 : decode cX12_between 133 = .ok (.aload_n 0, 1) := by decide +kernel
theorem dX12_between_134 : decode cX12_between 134 = .ok (.iload_n 1, 1) := by decide +kernel
theorem dX12_between_135 : decode cX12_between 135 = .ok (.invokevirtual 306, 3) := by decide +kernel
theorem dX12_between_138 : decode cX12_between 138 = .ok (.aload_n 0, 1) := by decide +kernel
theorem dX12_between_139 : decode cX12_between 139 = .ok (.getfield 297, 3) := by decide +kernel
theorem dX12_between_142 : decode cX12_between 142 = .ok (.aload_n 0, 1) := by decide +kernel
theorem dX12_between_143 : decode cX12_between 143 = .ok (.getfield 300, 3) := by decide +kernel
theorem dX12_between_146 : decode cX12_between 146 = .ok (.iload_n 1, 1) := by decide +kernel
theorem dX12_between_147 : decode cX12_between 147 = .ok (.invokestatic 281, 3) := by decide +kernel
theorem dX12_between_150 : decode cX12_between 150 = .ok (.iconst 4, 1) := by decide +kernel
theorem dX12_between_151 : decode cX12_between 151 = .ok (.if_icmp .eq 23, 3) := by decide +kernel
theorem dX12_between_154 : decode cX12_between 154 = .ok (.iload_n 1, 1) := by decide +kernel
theorem dX12_between_155 : decode cX12_between 155 = .ok (.invokestatic 281, 3) := by decide +kernel
theorem dX12_between_158 : decode cX12_between 158 = .ok (.iconst 4, 1) := by decide +kernel
theorem dX12_between_159 : decode cX12_between 159 = .ok (.if_icmp .le 19, 3) := by decide +kernel
theorem dX12_between_162 : decode cX12_between 162 = .ok (.aload_n 0, 1) := by decide +kernel
theorem dX12_between_163 : decode cX12_between 163 = .ok (.getfield 297, 3) := by decide +kernel
theorem dX12_between_166 : decode cX12_between 166 = .ok (.aload_n 0, 1) := by decide +kernel
theorem dX12_between_167 : decode cX12_between 167 = .ok (.getfield 300, 3) := by decide +kernel
theorem dX12_between_170 : decode cX12_between 170 = .ok (.baload, 1) := by decide +kernel
theorem dX12_between_171 : decode cX12_between 171 = .ok (.ifCond .eq 7, 3) := by decide +kernel
theorem dX12_between_174 : decode cX12_between 174 = .ok (.iconst 1, 1) := by decide +kernel
theorem dX12_between_175 : decode cX12_between 175 = .ok (.goto 4, 3) := by decide +kernel
theorem dX12_between_178 : decode cX12_between 178 = .ok (.iconst 0, 1) := by decide +kernel
theorem dX12_between_179 : decode cX12_between 179 = .ok (.bastore, 1) := by decide +kernel
theorem dX12_between_180 : decode cX12_between 180 = .ok (.iconst 1, 1) := by decide +kernel
theorem dX12_between_181 : decode cX12_between 181 = .ok (.ireturn, 1) := by decide +kernel
theorem dX12_closes_0 : decode cX12_closes 0 = .ok (.aload_n 0, 1) := by decide +kernel
theorem dX12_closes_1 : decode cX12_closes 1 = .ok (.bipush 41, 2) := by decide +kernel
theorem dX12_closes_3 : decode cX12_closes 3 = .ok (.invokevirtual 291, 3) := by decide +kernel
theorem dX12_closes_6 : decode cX12_closes 6 = .ok (.ifCond .eq 10, 3) := by decide +kernel
theorem dX12_closes_9 : decode cX12_closes 9 = .ok (.aload_n 0, 1) := by decide +kernel
theorem dX12_closes_10 : decode cX12_closes 10 = .ok (.getfield 300, 3) := by decide +kernel
theorem dX12_closes_13 : decode cX12_closes 13 = .ok (.ifCond .ne 5, 3) := by decide +kernel
theorem dX12_closes_16 : decode cX12_closes 16 = .ok (.iconst 0, 1) := by decide +kernel
theorem dX12_closes_17 : decode cX12_closes 17 = .ok (.ireturn, 1) := by decide +kernel
theorem dX12_closes_18 : decode cX12_closes 18 = .ok (.aload_n 0, 1) := by decide +kernel
theorem dX12_closes_19 : decode cX12_closes 19 = .ok (.iconst 1, 1) := by decide +kernel
theorem dX12_closes_20 : decode cX12_closes 20 = .ok (.invokevirtual 303, 3) := by decide +kernel
theorem dX12_closes_23 : decode cX12_closes 23 = .ok (.aload_n 0, 1) := by decide +kernel
theorem dX12_closes_24 : decode cX12_closes 24 = .ok (.dup, 1) := by decide +kernel
theorem dX12_closes_25 : decode cX12_closes 25 = .ok (.getfield 275, 3) := by decide +kernel
theorem dX12_closes_28 : decode cX12_closes 28 = .ok (.iconst 1, 1) := by decide +kernel
theorem dX12_closes_29 : decode cX12_closes 29 = .ok (.isub, 1) := by decide +kernel
theorem dX12_closes_30 : decode cX12_closes 30 = .ok (.putfield 275, 3) := by decide +kernel
theorem dX12_closes_33 : decode cX12_closes 33 = .ok (.aload_n 0, 1) := by decide +kernel
theorem dX12_closes_34 : decode cX12_closes 34 = .ok (.dup, 1) := by decide +kernel
theorem dX12_closes_35 : decode cX12_closes 35 = .ok (.getfield 300, 3) := by decide +kernel
theorem dX12_closes_38 : decode cX12_closes 38 = .ok (.iconst 1, 1) := by decide +kernel
theorem dX12_closes_39 : decode cX12_closes 39 = .ok (.isub, 1) := by decide +kernel
theorem dX12_closes_40 : decode cX12_closes 40 = .ok (.putfield 300, 3) := by decide +kernel
theorem dX12_closes_43 : decode cX12_closes 43 = .ok (.aload_n 0, 1) := by decide +kernel
theorem dX12_closes_44 : decode cX12_closes 44 = .ok (.dup, 1) := by decide +kernel
theorem dX12_closes_45 : decode cX12_closes 45 = .ok (.getfield 284, 3) := by decide +kernel
theorem dX12_closes_48 : decode cX12_closes 48 = .ok (.iconst 1, 1) := by decide +kernel
theorem dX12_closes_49 : decode cX12_closes 49 = .ok (.isub, 1) := by decide +kernel
theorem dX12_closes_50 : decode cX12_closes 50 = .ok (.putfield 284, 3) := by decide +kernel
theorem dX12_closes_53 : decode cX12_closes 53 = .ok (.aload_n 0, 1) := by decide +kernel
theorem dX12_closes_54 : decode cX12_closes 54 = .ok (.bipush 7, 2) := by decide +kernel
theorem dX12_closes_56 : decode cX12_closes 56 = .ok (.invokevirtual 303, 3) := by decide +kernel
theorem dX12_closes_59 : decode cX12_closes 59 = .ok (.iconst 1, 1) := by decide +kernel
theorem dX12_closes_60 : decode cX12_closes 60 = .ok (.ireturn, 1) := by decide +kernel
theorem dX12_ahead_0 : decode cX12_ahead 0 = .ok (.aload_n 0, 1) := by decide +kernel
theorem dX12_ahead_1 : decode cX12_ahead 1 = .ok (.bipush 40, 2) := by decide +kernel
theorem dX12_ahead_3 : decode cX12_ahead 3 = .ok (.invokevirtual 291, 3) := by decide +kernel
theorem dX12_ahead_6 : decode cX12_ahead 6 = .ok (.ifCond .ne 24, 3) := by decide +kernel
theorem dX12_ahead_9 : decode cX12_ahead 9 = .ok (.aload_n 0, 1) := by decide +kernel
theorem dX12_ahead_10 : decode cX12_ahead 10 = .ok (.bipush 45, 2) := by decide +kernel
theorem dX12_ahead_12 : decode cX12_ahead 12 = .ok (.invokevirtual 291, 3) := by decide +kernel
theorem dX12_ahead_15 : decode cX12_ahead 15 = .ok (.ifCond .ne 15, 3) := by decide +kernel
theorem dX12_ahead_18 : decode cX12_ahead 18 = .ok (.iload_n 1, 1) := by decide +kernel
theorem dX12_ahead_19 : decode cX12_ahead 19 = .ok (.ifCond .eq 15, 3) := by decide +kernel
theorem dX12_ahead_22 : decode cX12_ahead 22 = .ok (.aload_n 0, 1) := by decide +kernel
theorem dX12_ahead_23 : decode cX12_ahead 23 = .ok (.iconst 4, 1) := by decide +kernel
theorem dX12_ahead_24 : decode cX12_ahead 24 = .ok (.invokevirtual 294, 3) := by decide +kernel
theorem dX12_ahead_27 : decode cX12_ahead 27 = .ok (.ifCond .eq 7, 3) := by decide +kernel
theorem dX12_ahead_30 : decode cX12_ahead 30 = .ok (.iconst 1, 1) := by decide +kernel
theorem dX12_ahead_31 : decode cX12_ahead 31 = .ok (.goto 4, 3) := by decide +kernel
theorem dX12_ahead_34 : decode cX12_ahead 34 = .ok (.iconst 0, 1) := by decide +kernel
theorem dX12_ahead_35 : decode cX12_ahead 35 = .ok (.istore_n 2, 1) := by decide +kernel
theorem dX12_ahead_36 : decode cX12_ahead 36 = .ok (.iload_n 2, 1) := by decide +kernel
theorem dX12_ahead_37 : decode cX12_ahead 37 = .ok (.ifCond .eq 11, 3) := by decide +kernel
theorem dX12_ahead_40 : decode cX12_ahead 40 = .ok (.aload_n 0, 1) := by decide +kernel
theorem dX12_ahead_41 : decode cX12_ahead 41 = .ok (.getfield 284, 3) := by decide +kernel
theorem dX12_ahead_44 : decode cX12_ahead 44 = .ok (.iconst 5, 1) := by decide +kernel
theorem dX12_ahead_45 : decode cX12_ahead 45 = .ok (.if_icmp .ne 5, 3) := by decide +kernel
theorem dX12_ahead_48 : decode cX12_ahead 48 = .ok (.iconst 0, 1) := by decide +kernel
theorem dX12_ahead_49 : decode cX12_ahead 49 = .ok (.ireturn, 1) := by decide +kernel
theorem dX12_ahead_50 : decode cX12_ahead 50 = .ok (.aload_n 0, 1) := by decide +kernel
theorem dX12_ahead_51 : decode cX12_ahead 51 = .ok (.dup, 1) := by decide +kernel
theorem dX12_ahead_52 : decode cX12_ahead 52 = .ok (.getfield 284, 3) := by decide +kernel
theorem dX12_ahead_55 : decode cX12_ahead 55 = .ok (.iconst 1, 1) := by decide +kernel
theorem dX12_ahead_56 : decode cX12_ahead 56 = .ok (.iadd, 1) := by decide +kernel
theorem dX12_ahead_57 : decode cX12_ahead 57 = .ok (.putfield 284, 3) := by decide +kernel
theorem dX12_ahead_60 : decode cX12_ahead 60 = .ok (.aload_n 0, 1) := by decide +kernel
theorem dX12_ahead_61 : decode cX12_ahead 61 = .ok (.bipush 40, 2) := by decide +kernel
theorem dX12_ahead_63 : decode cX12_ahead 63 = .ok (.invokevirtual 291, 3) := by decide +kernel
theorem dX12_ahead_66 : decode cX12_ahead 66 = .ok (.ifCond .eq 32, 3) := by decide +kernel
theorem dX12_ahead_69 : decode cX12_ahead 69 = .ok (.aload_n 0, 1) := by decide +kernel
theorem dX12_ahead_70 : decode cX12_ahead 70 = .ok (.bipush 15, 2) := by decide +kernel
theorem dX12_ahead_72 : decode cX12_ahead 72 = .ok (.invokevirtual 306, 3) := by decide +kernel
theorem dX12_ahead_75 : decode cX12_ahead 75 = .ok (.aload_n 0, 1) := by decide +kernel
theorem dX12_ahead_76 : decode cX12_ahead 76 = .ok (.dup, 1) := by decide +kernel
theorem dX12_ahead_77 : decode cX12_ahead 77 = .ok (.getfield 300, 3) := by decide +kernel
theorem dX12_ahead_80 : decode cX12_ahead 80 = .ok (.iconst 1, 1) := by decide +kernel
theorem dX12_ahead_81 : decode cX12_ahead 81 = .ok (.iadd, 1) := by decide +kernel
theorem dX12_ahead_82 : decode cX12_ahead 82 = .ok (.putfield 300, 3) := by decide +kernel
theorem dX12_ahead_85 : decode cX12_ahead 85 = .ok (.aload_n 0, 1) := by decide +kernel
theorem dX12_ahead_86 : decode cX12_ahead 86 = .ok (.getfield 297, 3) := by decide +kernel
theorem dX12_ahead_89 : decode cX12_ahead 89 = .ok (.aload_n 0, 1) := by decide +kernel
theorem dX12_ahead_90 : decode cX12_ahead 90 = .ok (.getfield 300, 3) := by decide +kernel
theorem dX12_ahead_93 : decode cX12_ahead 93 = .ok (.iconst 0, 1) := by decide +kernel
theorem dX12_ahead_94 : decode cX12_ahead 94 = .ok (.bastore, 1) := by decide +kernel
theorem dX12_ahead_95 : decode cX12_ahead 95 = .ok (.goto 22, 3) := by decide +kernel
theorem dX12_ahead_98 : decode cX12_ahead 98 = .ok (.aload_n 0, 1) := by decide +kernel
theorem dX12_ahead_99 : decode cX12_ahead 99 = .ok (.aload_n 0, 1) := by decide +kernel
theorem dX12_ahead_100 : decode cX12_ahead 100 = .ok (.getfield 241, 3) := by decide +kernel
theorem dX12_ahead_103 : decode cX12_ahead 103 = .ok (.iconst 4, 1) := by decide +kernel
theorem dX12_ahead_104 : decode cX12_ahead 104 = .ok (.if_icmp .ne 8, 3) := by decide +kernel
theorem dX12_ahead_107 : decode cX12_ahead 107 = .ok (.bipush 13, 2) := by decide +kernel
theorem dX12_ahead_109 : decode cX12_ahead 109 = .ok (.goto 5, 3) := by decide +kernel
theorem dX12_ahead_112 : decode cX12_ahead 112 = .ok (.bipush 14, 2) := by decide +kernel
theorem dX12_ahead_114 : decode cX12_ahead 114 = .ok (.invokevirtual 306, 3) := by decide +kernel
theorem dX12_ahead_117 : decode cX12_ahead 117 = .ok (.iconst 1, 1) := by decide +kernel
theorem dX12_ahead_118 : decode cX12_ahead 118 = .ok (.ireturn, 1) := by decide +kernel
theorem dX12_readE_0 : decode cX12_readE 0 = .ok (.aload_n 0, 1) := by decide +kernel
theorem dX12_readE_1 : decode cX12_readE 1 = .ok (.sipush 160, 3) := by decide +kernel
theorem dX12_readE_4 : decode cX12_readE 4 = .ok (.iload_n 1, 1) := by decide +kernel
theorem dX12_readE_5 : decode cX12_readE 5 = .ok (.imul, 1) := by decide +kernel
theorem dX12_readE_6 : decode cX12_readE 6 = .ok (.putfield 269, 3) := by decide +kernel
theorem dX12_readE_9 : decode cX12_readE 9 = .ok (.aload_n 0, 1) := by decide +kernel
theorem dX12_readE_10 : decode cX12_readE 10 = .ok (.iconst 0, 1) := by decide +kernel
theorem dX12_readE_11 : decode cX12_readE 11 = .ok (.putfield 272, 3) := by decide +kernel
theorem dX12_readE_14 : decode cX12_readE 14 = .ok (.aload_n 0, 1) := by decide +kernel
theorem dX12_readE_15 : decode cX12_readE 15 = .ok (.iconst 0, 1) := by decide +kernel
theorem dX12_readE_16 : decode cX12_readE 16 = .ok (.putfield 275, 3) := by decide +kernel
theorem dX12_readE_19 : decode cX12_readE 19 = .ok (.aload_n 0, 1) := by decide +kernel
theorem dX12_readE_20 : decode cX12_readE 20 = .ok (.iconst 0, 1) := by decide +kernel
theorem dX12_readE_21 : decode cX12_readE 21 = .ok (.putfield 284, 3) := by decide +kernel
theorem dX12_readE_24 : decode cX12_readE 24 = .ok (.aload_n 0, 1) := by decide +kernel
theorem dX12_readE_25 : decode cX12_readE 25 = .ok (.iconst 0, 1) := by decide +kernel
theorem dX12_readE_26 : decode cX12_readE 26 = .ok (.putfield 300, 3) := by decide +kernel
theorem dX12_readE_29 : decode cX12_readE 29 = .ok (.aload_n 0, 1) := by decide +kernel
theorem dX12_readE_30 : decode cX12_readE 30 = .ok (.getfield 297, 3) := by decide +kernel
theorem dX12_readE_33 : decode cX12_readE 33 = .ok (.iconst 0, 1) := by decide +kernel
theorem dX12_readE_34 : decode cX12_readE 34 = .ok (.iconst 0, 1) := by decide +kernel
theorem dX12_readE_35 : decode cX12_readE 35 = .ok (.bastore, 1) := by decide +kernel
theorem dX12_readE_36 : decode cX12_readE 36 = .ok (.iconst 1, 1) := by decide +kernel
theorem dX12_readE_37 : decode cX12_readE 37 = .ok (.istore_n 2, 1) := by decide +kernel
theorem dX12_readE_38 : decode cX12_readE 38 = .ok (.iconst 1, 1) := by decide +kernel
theorem dX12_readE_39 : decode cX12_readE 39 = .ok (.istore_n 3, 1) := by decide +kernel
theorem dX12_readE_40 : decode cX12_readE 40 = .ok (.iload_n 2, 1) := by decide +kernel
theorem dX12_readE_41 : decode cX12_readE 41 = .ok (.ifCond .eq 55, 3) := by decide +kernel
theorem dX12_readE_44 : decode cX12_readE 44 = .ok (.aload_n 0, 1) := by decide +kernel
theorem dX12_readE_45 : decode cX12_readE 45 = .ok (.getfield 241, 3) := by decide +kernel
theorem dX12_readE_48 : decode cX12_readE 48 = .ok (.iconst 1, 1) := by decide +kernel
theorem dX12_readE_49 : decode cX12_readE 49 = .ok (.if_icmp .eq 11, 3) := by decide +kernel
theorem dX12_readE_52 : decode cX12_readE 52 = .ok (.aload_n 0, 1) := by decide +kernel
theorem dX12_readE_53 : decode cX12_readE 53 = .ok (.getfield 241, 3) := by decide +kernel
theorem dX12_readE_56 : decode cX12_readE 56 = .ok (.iconst 2, 1) := by decide +kernel
theorem dX12_readE_57 : decode cX12_readE 57 = .ok (.if_icmp .ne 39, 3) := by decide +kernel
theorem dX12_readE_60 : decode cX12_readE 60 = .ok (.aload_n 0, 1) := by decide +kernel
theorem dX12_readE_61 : decode cX12_readE 61 = .ok (.aload_n 0, 1) := by decide +kernel
theorem dX12_readE_62 : decode cX12_readE 62 = .ok (.getfield 241, 3) := by decide +kernel
theorem dX12_readE_65 : decode cX12_readE 65 = .ok (.iconst 1, 1) := by decide +kernel
theorem dX12_readE_66 : decode cX12_readE 66 = .ok (.if_icmp .ne 12, 3) := by decide +kernel
theorem dX12_readE_69 : decode cX12_readE 69 = .ok (.iconst (-1), 1) := by decide +kernel
theorem dX12_readE_70 : decode cX12_readE 70 = .ok (.aload_n 0, 1) := by decide +kernel
theorem dX12_readE_71 : decode cX12_readE 71 = .ok (.getfield 254, 3) := by decide +kernel
theorem dX12_readE_74 : decode cX12_readE 74 = .ok (.isub, 1) := by decide +kernel
theorem dX12_readE_75 : decode cX12_readE 75 = .ok (.goto 7, 3) := by decide +kernel
theorem dX12_readE_78 : decode cX12_readE 78 = .ok (.aload_n 0, 1) := by decide +kernel
theorem dX12_readE_79 : decode cX12_readE 79 = .ok (.getfield 254, 3) := by decide +kernel
theorem dX12_readE_82 : decode cX12_readE 82 = .ok (.invokevirtual 287, 3) := by decide +kernel
theorem dX12_readE_85 : decode cX12_readE 85 = .ok (.aload_n 0, 1) := by decide +kernel
theorem dX12_readE_86 : decode cX12_readE 86 = .ok (.bipush 7, 2) := by decide +kernel
theorem dX12_readE_88 : decode cX12_readE 88 = .ok (.invokevirtual 303, 3) := by decide +kernel
theorem dX12_readE_91 : decode cX12_readE 91 = .ok (.iconst 0, 1) := by decide +kernel
theorem dX12_readE_92 : decode cX12_readE 92 = .ok (.istore_n 2, 1) := by decide +kernel
theorem dX12_readE_93 : decode cX12_readE 93 = .ok (.goto 115, 3) := by decide +kernel
theorem dX12_readE_96 : decode cX12_readE 96 = .ok (.iload_n 2, 1) := by decide +kernel
theorem dX12_readE_97 : decode cX12_readE 97 = .ok (.ifCond .eq 35, 3) := by decide +kernel
theorem dX12_readE_100 : decode cX12_readE 100 = .ok (.aload_n 0, 1) := by decide +kernel
theorem dX12_readE_101 : decode cX12_readE 101 = .ok (.bipush 45, 2) := by decide +kernel
theorem dX12_readE_103 : decode cX12_readE 103 = .ok (.invokevirtual 291, 3) := by decide +kernel
theorem dX12_readE_106 : decode cX12_readE 106 = .ok (.istore 4, 2) := by decide +kernel
theorem dX12_readE_108 : decode cX12_readE 108 = .ok (.aload_n 0, 1) := by decide +kernel
theorem dX12_readE_109 : decode cX12_readE 109 = .ok (.iload_n 3, 1) := by decide +kernel
theorem dX12_readE_110 : decode cX12_readE 110 = .ok (.invokevirtual 309, 3) := by decide +kernel
theorem dX12_readE_113 : decode cX12_readE 113 = .ok (.ifCond .ne 5, 3) := by decide +kernel
theorem dX12_readE_116 : decode cX12_readE 116 = .ok (.iconst 0, 1) := by decide +kernel
theorem dX12_readE_117 : decode cX12_readE 117 = .ok (.ireturn, 1) := by decide +kernel
theorem dX12_readE_118 : decode cX12_readE 118 = .ok (.iload 4, 2) := by decide +kernel
theorem dX12_readE_120 : decode cX12_readE 120 = .ok (.ifCond .ne 7, 3) := by decide +kernel
theorem dX12_readE_123 : decode cX12_readE 123 = .ok (.iconst 1, 1) := by decide +kernel
theorem dX12_readE_124 : decode cX12_readE 124 = .ok (.goto 4, 3) := by decide +kernel
theorem dX12_readE_127 : decode cX12_readE 127 = .ok (.iconst 0, 1) := by decide +kernel
theorem dX12_readE_128 : decode cX12_readE 128 = .ok (.istore_n 3, 1) := by decide +kernel
theorem dX12_readE_129 : decode cX12_readE 129 = .ok (.goto 79, 3) := by decide +kernel
theorem dX12_readE_132 : decode cX12_readE 132 = .ok (.aload_n 0, 1) := by decide +kernel
theorem dX12_readE_133 : decode cX12_readE 133 = .ok (.bipush 59, 2) := by decide +kernel
theorem dX12_readE_135 : decode cX12_readE 135 = .ok (.invokevirtual 291, 3) := by decide +kernel
theorem dX12_readE_138 : decode cX12_readE 138 = .ok (.ifCond .eq 27, 3) := by decide +kernel
theorem dX12_readE_141 : decode cX12_readE 141 = .ok (.aload_n 0, 1) := by decide +kernel
theorem dX12_readE_142 : decode cX12_readE 142 = .ok (.getfield 300, 3) := by decide +kernel
theorem dX12_readE_145 : decode cX12_readE 145 = .ok (.ifCond .ne 20, 3) := by decide +kernel
theorem dX12_readE_148 : decode cX12_readE 148 = .ok (.aload_n 0, 1) := by decide +kernel
theorem dX12_readE_149 : decode cX12_readE 149 = .ok (.iconst 1, 1) := by decide +kernel
theorem dX12_readE_150 : decode cX12_readE 150 = .ok (.invokevirtual 303, 3) := by decide +kernel
theorem dX12_readE_153 : decode cX12_readE 153 = .ok (.aload_n 0, 1) := by decide +kernel
theorem dX12_readE_154 : decode cX12_readE 154 = .ok (.getfield 313, 3) := by decide +kernel
theorem dX12_readE_157 : decode cX12_readE 157 = .ok (.iload_n 1, 1) := by decide +kernel
theorem dX12_readE_158 : decode cX12_readE 158 = .ok (.aload_n 0, 1) := by decide +kernel
theorem dX12_readE_159 : decode cX12_readE 159 = .ok (.getfield 272, 3) := by decide +kernel
theorem dX12_readE_162 : decode cX12_readE 162 = .ok (.iastore, 1) := by decide +kernel
theorem dX12_readE_163 : decode cX12_readE 163 = .ok (.iconst 1, 1) := by decide +kernel
theorem dX12_readE_164 : decode cX12_readE 164 = .ok (.ireturn, 1) := by decide +kernel
theorem dX12_readE_165 : decode cX12_readE 165 = .ok (.aload_n 0, 1) := by decide +kernel
theorem dX12_readE_166 : decode cX12_readE 166 = .ok (.invokevirtual 316, 3) := by decide +kernel
theorem dX12_readE_169 : decode cX12_readE 169 = .ok (.ifCond .eq 30, 3) := by decide +kernel
theorem dX12_readE_172 : decode cX12_readE 172 = .ok (.iconst 1, 1) := by decide +kernel
theorem dX12_readE_173 : decode cX12_readE 173 = .ok (.istore_n 2, 1) := by decide +kernel
theorem dX12_readE_174 : decode cX12_readE 174 = .ok (.aload_n 0, 1) := by decide +kernel
theorem dX12_readE_175 : decode cX12_readE 175 = .ok (.iconst 3, 1) := by decide +kernel
theorem dX12_readE_176 : decode cX12_readE 176 = .ok (.invokevirtual 294, 3) := by decide +kernel
theorem dX12_readE_179 : decode cX12_readE 179 = .ok (.ifCond .ne 11, 3) := by decide +kernel
theorem dX12_readE_182 : decode cX12_readE 182 = .ok (.aload_n 0, 1) := by decide +kernel
theorem dX12_readE_183 : decode cX12_readE 183 = .ok (.iconst 2, 1) := by decide +kernel
theorem dX12_readE_184 : decode cX12_readE 184 = .ok (.invokevirtual 294, 3) := by decide +kernel
theorem dX12_readE_187 : decode cX12_readE 187 = .ok (.ifCond .eq 7, 3) := by decide +kernel
theorem dX12_readE_190 : decode cX12_readE 190 = .ok (.iconst 1, 1) := by decide +kernel
theorem dX12_readE_191 : decode cX12_readE 191 = .ok (.goto 4, 3) := by decide +kernel
theorem dX12_readE_194 : decode cX12_readE 194 = .ok (.iconst 0, 1) := by decide +kernel
theorem dX12_readE_195 : decode cX12_readE 195 = .ok (.istore_n 3, 1) := by decide +kernel
theorem dX12_readE_196 : decode cX12_readE 196 = .ok (.goto 12, 3) := by decide +kernel
theorem dX12_readE_199 : decode cX12_readE 199 = .ok (.aload_n 0, 1) := by decide +kernel
theorem dX12_readE_200 : decode cX12_readE 200 = .ok (.invokevirtual 320, 3) := by decide +kernel
theorem dX12_readE_203 : decode cX12_readE 203 = .ok (.ifCond .ne 5, 3) := by decide +kernel
theorem dX12_readE_206 : decode cX12_readE 206 = .ok (.iconst 0, 1) := by decide +kernel
theorem dX12_readE_207 : decode cX12_readE 207 = .ok (.ireturn, 1) := by decide +kernel
theorem dX12_readE_208 : decode cX12_readE 208 = .ok (.aload_n 0, 1) := by decide +kernel
theorem dX12_readE_209 : decode cX12_readE 209 = .ok (.invokevirtual 323, 3) := by decide +kernel
theorem dX12_readE_212 : decode cX12_readE 212 = .ok (.goto (-172), 3) := by decide +kernel
theorem dX12_readAll_0 : decode cX12_readAll 0 = .ok (.aload_n 0, 1) := by decide +kernel
theorem dX12_readAll_1 : decode cX12_readAll 1 = .ok (.iconst 0, 1) := by decide +kernel
theorem dX12_readAll_2 : decode cX12_readAll 2 = .ok (.putfield 235, 3) := by decide +kernel
theorem dX12_readAll_5 : decode cX12_readAll 5 = .ok (.iconst 0, 1) := by decide +kernel
theorem dX12_readAll_6 : decode cX12_readAll 6 = .ok (.istore_n 2, 1) := by decide +kernel
theorem dX12_readAll_7 : decode cX12_readAll 7 = .ok (.iload_n 2, 1) := by decide +kernel
theorem dX12_readAll_8 : decode cX12_readAll 8 = .ok (.iconst 2, 1) := by decide +kernel
theorem dX12_readAll_9 : decode cX12_readAll 9 = .ok (.if_icmp .ge 47, 3) := by decide +kernel
theorem dX12_readAll_12 : decode cX12_readAll 12 = .ok (.aload_n 0, 1) := by decide +kernel
theorem dX12_readAll_13 : decode cX12_readAll 13 = .ok (.invokevirtual 323, 3) := by decide +kernel
theorem dX12_readAll_16 : decode cX12_readAll 16 = .ok (.aload_n 0, 1) := by decide +kernel
theorem dX12_readAll_17 : decode cX12_readAll 17 = .ok (.iload_n 2, 1) := by decide +kernel
theorem dX12_readAll_18 : decode cX12_readAll 18 = .ok (.invokevirtual 294, 3) := by decide +kernel
theorem dX12_readAll_21 : decode cX12_readAll 21 = .ok (.ifCond .ne 8, 3) := by decide +kernel
theorem dX12_readAll_24 : decode cX12_readAll 24 = .ok (.aload_n 0, 1) := by decide +kernel
theorem dX12_readAll_25 : decode cX12_readAll 25 = .ok (.getfield 247, 3) := by decide +kernel
theorem dX12_readAll_28 : decode cX12_readAll 28 = .ok (.ireturn, 1) := by decide +kernel
theorem dX12_readAll_29 : decode cX12_readAll 29 = .ok (.aload_n 0, 1) := by decide +kernel
theorem dX12_readAll_30 : decode cX12_readAll 30 = .ok (.invokevirtual 323, 3) := by decide +kernel
theorem dX12_readAll_33 : decode cX12_readAll 33 = .ok (.aload_n 0, 1) := by decide +kernel
theorem dX12_readAll_34 : decode cX12_readAll 34 = .ok (.iconst 2, 1) := by decide +kernel
theorem dX12_readAll_35 : decode cX12_readAll 35 = .ok (.iload_n 1, 1) := by decide +kernel
theorem dX12_readAll_36 : decode cX12_readAll 36 = .ok (.imul, 1) := by decide +kernel
theorem dX12_readAll_37 : decode cX12_readAll 37 = .ok (.iload_n 2, 1) := by decide +kernel
theorem dX12_readAll_38 : decode cX12_readAll 38 = .ok (.iadd, 1) := by decide +kernel
theorem dX12_readAll_39 : decode cX12_readAll 39 = .ok (.invokevirtual 326, 3) := by decide +kernel
theorem dX12_readAll_42 : decode cX12_readAll 42 = .ok (.ifCond .ne 8, 3) := by decide +kernel
theorem dX12_readAll_45 : decode cX12_readAll 45 = .ok (.aload_n 0, 1) := by decide +kernel
theorem dX12_readAll_46 : decode cX12_readAll 46 = .ok (.getfield 247, 3) := by decide +kernel
theorem dX12_readAll_49 : decode cX12_readAll 49 = .ok (.ireturn, 1) := by decide +kernel
theorem dX12_readAll_50 : decode cX12_readAll 50 = .ok (.iinc 2 1, 3) := by decide +kernel
theorem dX12_readAll_53 : decode cX12_readAll 53 = .ok (.goto (-46), 3) := by decide +kernel
theorem dX12_readAll_56 : decode cX12_readAll 56 = .ok (.aload_n 0, 1) := by decide +kernel
theorem dX12_readAll_57 : decode cX12_readAll 57 = .ok (.invokevirtual 323, 3) := by decide +kernel
theorem dX12_readAll_60 : decode cX12_readAll 60 = .ok (.aload_n 0, 1) := by decide +kernel
theorem dX12_readAll_61 : decode cX12_readAll 61 = .ok (.getfield 241, 3) := by decide +kernel
theorem dX12_readAll_64 : decode cX12_readAll 64 = .ok (.ifCond .ne 7, 3) := by decide +kernel
theorem dX12_readAll_67 : decode cX12_readAll 67 = .ok (.iconst (-1), 1) := by decide +kernel
theorem dX12_readAll_68 : decode cX12_readAll 68 = .ok (.goto 7, 3) := by decide +kernel
theorem dX12_readAll_71 : decode cX12_readAll 71 = .ok (.aload_n 0, 1) := by decide +kernel
theorem dX12_readAll_72 : decode cX12_readAll 72 = .ok (.getfield 247, 3) := by decide +kernel
theorem dX12_readAll_75 : decode cX12_readAll 75 = .ok (.ireturn, 1) := by decide +kernel
theorem dX12_text_0 : decode cX12_text 0 = .ok (.aload_n 0, 1) := by decide +kernel
theorem dX12_text_1 : decode cX12_text 1 = .ok (.getfield 329, 3) := by decide +kernel
theorem dX12_text_4 : decode cX12_text 4 = .ok (.bipush 6, 2) := by decide +kernel
theorem dX12_text_6 : decode cX12_text 6 = .ok (.if_icmp .ne 6, 3) := by decide +kernel
theorem dX12_text_9 : decode cX12_text 9 = .ok (.bipush (-4), 2) := by decide +kernel
theorem dX12_text_11 : decode cX12_text 11 = .ok (.ireturn, 1) := by decide +kernel
theorem dX12_text_12 : decode cX12_text 12 = .ok (.aload_n 0, 1) := by decide +kernel
theorem dX12_text_13 : decode cX12_text 13 = .ok (.aload_n 0, 1) := by decide +kernel
theorem dX12_text_14 : decode cX12_text 14 = .ok (.getfield 329, 3) := by decide +kernel
theorem dX12_text_17 : decode cX12_text 17 = .ok (.invokevirtual 332, 3) := by decide +kernel
theorem dX12_text_20 : decode cX12_text 20 = .ok (.istore_n 1, 1) := by decide +kernel
theorem dX12_text_21 : decode cX12_text 21 = .ok (.aload_n 0, 1) := by decide +kernel
theorem dX12_text_22 : decode cX12_text 22 = .ok (.iconst 0, 1) := by decide +kernel
theorem dX12_text_23 : decode cX12_text 23 = .ok (.putfield 228, 3) := by decide +kernel
theorem dX12_text_26 : decode cX12_text 26 = .ok (.iload_n 1, 1) := by decide +kernel
theorem dX12_text_27 : decode cX12_text 27 = .ok (.iconst (-1), 1) := by decide +kernel
theorem dX12_text_28 : decode cX12_text 28 = .ok (.if_icmp .eq 8, 3) := by decide +kernel
theorem dX12_text_31 : decode cX12_text 31 = .ok (.bipush (-100), 2) := by decide +kernel
theorem dX12_text_33 : decode cX12_text 33 = .ok (.iload_n 1, 1) := by decide +kernel
theorem dX12_text_34 : decode cX12_text 34 = .ok (.isub, 1) := by decide +kernel
theorem dX12_text_35 : decode cX12_text 35 = .ok (.ireturn, 1) := by decide +kernel
theorem dX12_text_36 : decode cX12_text 36 = .ok (.aload_n 0, 1) := by decide +kernel
theorem dX12_text_37 : decode cX12_text 37 = .ok (.dup, 1) := by decide +kernel
theorem dX12_text_38 : decode cX12_text 38 = .ok (.getfield 329, 3) := by decide +kernel
theorem dX12_text_41 : decode cX12_text 41 = .ok (.iconst 1, 1) := by decide +kernel
theorem dX12_text_42 : decode cX12_text 42 = .ok (.iadd, 1) := by decide +kernel
theorem dX12_text_43 : decode cX12_text 43 = .ok (.putfield 329, 3) := by decide +kernel
theorem dX12_text_46 : decode cX12_text 46 = .ok (.aload_n 0, 1) := by decide +kernel
theorem dX12_text_47 : decode cX12_text 47 = .ok (.getfield 329, 3) := by decide +kernel
theorem dX12_text_50 : decode cX12_text 50 = .ok (.iconst 1, 1) := by decide +kernel
theorem dX12_text_51 : decode cX12_text 51 = .ok (.isub, 1) := by decide +kernel
theorem dX12_text_52 : decode cX12_text 52 = .ok (.ireturn, 1) := by decide +kernel
theorem dX12_force_0 : decode cX12_force 0 = .ok (.iload_n 1, 1) := by decide +kernel
theorem dX12_force_1 : decode cX12_force 1 = .ok (.i2l, 1) := by decide +kernel
theorem dX12_force_2 : decode cX12_force 2 = .ok (.lconst 0, 1) := by decide +kernel
theorem dX12_force_3 : decode cX12_force 3 = .ok (.aload_n 0, 1) := by decide +kernel
theorem dX12_force_4 : decode cX12_force 4 = .ok (.getfield 329, 3) := by decide +kernel
theorem dX12_force_7 : decode cX12_force 7 = .ok (.iconst 1, 1) := by decide +kernel
theorem dX12_force_8 : decode cX12_force 8 = .ok (.isub, 1) := by decide +kernel
theorem dX12_force_9 : decode cX12_force 9 = .ok (.i2l, 1) := by decide +kernel
theorem dX12_force_10 : decode cX12_force 10 = .ok (.invokestatic 5, 3) := by decide +kernel
theorem dX12_force_13 : decode cX12_force 13 = .ok (.ifCond .ne 6, 3) := by decide +kernel
theorem dX12_force_16 : decode cX12_force 16 = .ok (.bipush (-2), 2) := by decide +kernel
theorem dX12_force_18 : decode cX12_force 18 = .ok (.ireturn, 1) := by decide +kernel
theorem dX12_force_19 : decode cX12_force 19 = .ok (.aload_n 0, 1) := by decide +kernel
theorem dX12_force_20 : decode cX12_force 20 = .ok (.getfield 335, 3) := by decide +kernel
theorem dX12_force_23 : decode cX12_force 23 = .ok (.istore_n 2, 1) := by decide +kernel
theorem dX12_force_24 : decode cX12_force 24 = .ok (.aload_n 0, 1) := by decide +kernel
theorem dX12_force_25 : decode cX12_force 25 = .ok (.iload_n 1, 1) := by decide +kernel
theorem dX12_force_26 : decode cX12_force 26 = .ok (.putfield 335, 3) := by decide +kernel
theorem dX12_force_29 : decode cX12_force 29 = .ok (.iload_n 2, 1) := by decide +kernel
theorem dX12_force_30 : decode cX12_force 30 = .ok (.ireturn, 1) := by decide +kernel
theorem dX12_nameOf_0 : decode cX12_nameOf 0 = .ok (.iload_n 1, 1) := by decide +kernel
theorem dX12_nameOf_1 : decode cX12_nameOf 1 = .ok (.tableswitch 76 0 4 #[35, 40, 47, 53, 64], 35) := by decide +kernel
theorem dX12_nameOf_36 : decode cX12_nameOf 36 = .ok (.aload_n 0, 1) := by decide +kernel
theorem dX12_nameOf_37 : decode cX12_nameOf 37 = .ok (.getfield 15, 3) := by decide +kernel
theorem dX12_nameOf_40 : decode cX12_nameOf 40 = .ok (.ireturn, 1) := by decide +kernel
theorem dX12_nameOf_41 : decode cX12_nameOf 41 = .ok (.aload_n 0, 1) := by decide +kernel
theorem dX12_nameOf_42 : decode cX12_nameOf 42 = .ok (.getfield 114, 3) := by decide +kernel
theorem dX12_nameOf_45 : decode cX12_nameOf 45 = .ok (.iload_n 2, 1) := by decide +kernel
theorem dX12_nameOf_46 : decode cX12_nameOf 46 = .ok (.iaload, 1) := by decide +kernel
theorem dX12_nameOf_47 : decode cX12_nameOf 47 = .ok (.ireturn, 1) := by decide +kernel
theorem dX12_nameOf_48 : decode cX12_nameOf 48 = .ok (.aload_n 0, 1) := by decide +kernel
theorem dX12_nameOf_49 : decode cX12_nameOf 49 = .ok (.iload_n 2, 1) := by decide +kernel
theorem dX12_nameOf_50 : decode cX12_nameOf 50 = .ok (.invokevirtual 144, 3) := by decide +kernel
theorem dX12_nameOf_53 : decode cX12_nameOf 53 = .ok (.ireturn, 1) := by decide +kernel
theorem dX12_nameOf_54 : decode cX12_nameOf 54 = .ok (.aload_n 0, 1) := by decide +kernel
theorem dX12_nameOf_55 : decode cX12_nameOf 55 = .ok (.aload_n 0, 1) := by decide +kernel
theorem dX12_nameOf_56 : decode cX12_nameOf 56 = .ok (.getfield 111, 3) := by decide +kernel
theorem dX12_nameOf_59 : decode cX12_nameOf 59 = .ok (.iload_n 2, 1) := by decide +kernel
theorem dX12_nameOf_60 : decode cX12_nameOf 60 = .ok (.iaload, 1) := by decide +kernel
theorem dX12_nameOf_61 : decode cX12_nameOf 61 = .ok (.invokevirtual 78, 3) := by decide +kernel
theorem dX12_nameOf_64 : decode cX12_nameOf 64 = .ok (.ireturn, 1) := by decide +kernel
theorem dX12_nameOf_65 : decode cX12_nameOf 65 = .ok (.aload_n 0, 1) := by decide +kernel
theorem dX12_nameOf_66 : decode cX12_nameOf 66 = .ok (.getfield 53, 3) := by decide +kernel
theorem dX12_nameOf_69 : decode cX12_nameOf 69 = .ok (.aload_n 0, 1) := by decide +kernel
theorem dX12_nameOf_70 : decode cX12_nameOf 70 = .ok (.getfield 111, 3) := by decide +kernel
theorem dX12_nameOf_73 : decode cX12_nameOf 73 = .ok (.iload_n 2, 1) := by decide +kernel
theorem dX12_nameOf_74 : decode cX12_nameOf 74 = .ok (.iaload, 1) := by decide +kernel
theorem dX12_nameOf_75 : decode cX12_nameOf 75 = .ok (.iaload, 1) := by decide +kernel
theorem dX12_nameOf_76 : decode cX12_nameOf 76 = .ok (.ireturn, 1) := by decide +kernel
theorem dX12_nameOf_77 : decode cX12_nameOf 77 = .ok (.aload_n 0, 1) := by decide +kernel
theorem dX12_nameOf_78 : decode cX12_nameOf 78 = .ok (.getfield 56, 3) := by decide +kernel
theorem dX12_nameOf_81 : decode cX12_nameOf 81 = .ok (.aload_n 0, 1) := by decide +kernel
theorem dX12_nameOf_82 : decode cX12_nameOf 82 = .ok (.getfield 111, 3) := by decide +kernel
theorem dX12_nameOf_85 : decode cX12_nameOf 85 = .ok (.iload_n 2, 1) := by decide +kernel
theorem dX12_nameOf_86 : decode cX12_nameOf 86 = .ok (.iaload, 1) := by decide +kernel
theorem dX12_nameOf_87 : decode cX12_nameOf 87 = .ok (.iaload, 1) := by decide +kernel
theorem dX12_nameOf_88 : decode cX12_nameOf 88 = .ok (.ireturn, 1) := by decide +kernel
theorem dX12_done_0 : decode cX12_done 0 = .ok (.iload_n 0, 1) := by decide +kernel
theorem dX12_done_1 : decode cX12_done 1 = .ok (.tableswitch 87 6 11 #[39, 43, 47, 51, 62, 73], 39) := by decide +kernel
theorem dX12_done_40 : decode cX12_done 40 = .ok (.iload_n 1, 1) := by decide +kernel
theorem dX12_done_41 : decode cX12_done 41 = .ok (.iload_n 2, 1) := by decide +kernel
theorem dX12_done_42 : decode cX12_done 42 = .ok (.iadd, 1) := by decide +kernel
theorem dX12_done_43 : decode cX12_done 43 = .ok (.ireturn, 1) := by decide +kernel
theorem dX12_done_44 : decode cX12_done 44 = .ok (.iload_n 1, 1) := by decide +kernel
theorem dX12_done_45 : decode cX12_done 45 = .ok (.iload_n 2, 1) := by decide +kernel
theorem dX12_done_46 : decode cX12_done 46 = .ok (.isub, 1) := by decide +kernel
theorem dX12_done_47 : decode cX12_done 47 = .ok (.ireturn, 1) := by decide +kernel
theorem dX12_done_48 : decode cX12_done 48 = .ok (.iload_n 1, 1) := by decide +kernel
theorem dX12_done_49 : decode cX12_done 49 = .ok (.iload_n 2, 1) := by decide +kernel
theorem dX12_done_50 : decode cX12_done 50 = .ok (.imul, 1) := by decide +kernel
theorem dX12_done_51 : decode cX12_done 51 = .ok (.ireturn, 1) := by decide +kernel
theorem dX12_done_52 : decode cX12_done 52 = .ok (.iload_n 1, 1) := by decide +kernel
theorem dX12_done_53 : decode cX12_done 53 = .ok (.iload_n 2, 1) := by decide +kernel
theorem dX12_done_54 : decode cX12_done 54 = .ok (.if_icmp .ge 7, 3) := by decide +kernel
theorem dX12_done_57 : decode cX12_done 57 = .ok (.iconst 1, 1) := by decide +kernel
theorem dX12_done_58 : decode cX12_done 58 = .ok (.goto 4, 3) := by decide +kernel
theorem dX12_done_61 : decode cX12_done 61 = .ok (.iconst 0, 1) := by decide +kernel
theorem dX12_done_62 : decode cX12_done 62 = .ok (.ireturn, 1) := by decide +kernel
theorem dX12_done_63 : decode cX12_done 63 = .ok (.iload_n 1, 1) := by decide +kernel
theorem dX12_done_64 : decode cX12_done 64 = .ok (.iload_n 2, 1) := by decide +kernel
theorem dX12_done_65 : decode cX12_done 65 = .ok (.if_icmp .ne 7, 3) := by decide +kernel
theorem dX12_done_68 : decode cX12_done 68 = .ok (.iconst 1, 1) := by decide +kernel
theorem dX12_done_69 : decode cX12_done 69 = .ok (.goto 4, 3) := by decide +kernel
