theorem dX0_init_0 : decode cX0_init 0 = .ok (.aload_n 0, 1) := by decide +kernel
theorem dX0_init_1 : decode cX0_init 1 = .ok (.invokespecial 3, 3) := by decide +kernel
theorem dX0_init_4 : decode cX0_init 4 = .ok (.aload_n 0, 1) := by decide +kernel
theorem dX0_init_5 : decode cX0_init 5 = .ok (.bipush 16, 2) := by decide +kernel
theorem dX0_init_7 : decode cX0_init 7 = .ok (.newarray .long, 2) := by decide +kernel
theorem dX0_init_9 : decode cX0_init 9 = .ok (.putfield 11, 3) := by decide +kernel
theorem dX0_init_12 : decode cX0_init 12 = .ok (.aload_n 0, 1) := by decide +kernel
theorem dX0_init_13 : decode cX0_init 13 = .ok (.bipush 16, 2) := by decide +kernel
theorem dX0_init_15 : decode cX0_init 15 = .ok (.newarray .long, 2) := by decide +kernel
theorem dX0_init_17 : decode cX0_init 17 = .ok (.putfield 15, 3) := by decide +kernel
theorem dX0_init_20 : decode cX0_init 20 = .ok (.aload_n 0, 1) := by decide +kernel
theorem dX0_init_21 : decode cX0_init 21 = .ok (.iconst 4, 1) := by decide +kernel
theorem dX0_init_22 : decode cX0_init 22 = .ok (.newarray .int, 2) := by decide +kernel
theorem dX0_init_24 : decode cX0_init 24 = .ok (.putfield 18, 3) := by decide +kernel
theorem dX0_init_27 : decode cX0_init 27 = .ok (.aload_n 0, 1) := by decide +kernel
theorem dX0_init_28 : decode cX0_init 28 = .ok (.aload_n 1, 1) := by decide +kernel
theorem dX0_init_29 : decode cX0_init 29 = .ok (.putfield 22, 3) := by decide +kernel
theorem dX0_init_32 : decode cX0_init 32 = .ok (.return_, 1) := by decide +kernel
theorem dX0_weigh_0 : decode cX0_weigh 0 = .ok (.aload_n 0, 1) := by decide +kernel
theorem dX0_weigh_1 : decode cX0_weigh 1 = .ok (.getfield 22, 3) := by decide +kernel
theorem dX0_weigh_4 : decode cX0_weigh 4 = .ok (.aload_n 1, 1) := by decide +kernel
theorem dX0_weigh_5 : decode cX0_weigh 5 = .ok (.invokevirtual 26, 3) := by decide +kernel
theorem dX0_weigh_8 : decode cX0_weigh 8 = .ok (.iconst 0, 1) := by decide +kernel
theorem dX0_weigh_9 : decode cX0_weigh 9 = .ok (.istore_n 3, 1) := by decide +kernel
theorem dX0_weigh_10 : decode cX0_weigh 10 = .ok (.iload_n 3, 1) := by decide +kernel
theorem dX0_weigh_11 : decode cX0_weigh 11 = .ok (.bipush 16, 2) := by decide +kernel
theorem dX0_weigh_13 : decode cX0_weigh 13 = .ok (.if_icmp .ge 28, 3) := by decide +kernel
theorem dX0_weigh_16 : decode cX0_weigh 16 = .ok (.aload_n 0, 1) := by decide +kernel
theorem dX0_weigh_17 : decode cX0_weigh 17 = .ok (.getfield 11, 3) := by decide +kernel
theorem dX0_weigh_20 : decode cX0_weigh 20 = .ok (.iload_n 3, 1) := by decide +kernel
theorem dX0_weigh_21 : decode cX0_weigh 21 = .ok (.iload_n 3, 1) := by decide +kernel
theorem dX0_weigh_22 : decode cX0_weigh 22 = .ok (.aload_n 1, 1) := by decide +kernel
theorem dX0_weigh_23 : decode cX0_weigh 23 = .ok (.getfield 32, 3) := by decide +kernel
theorem dX0_weigh_26 : decode cX0_weigh 26 = .ok (.if_icmp .ne 7, 3) := by decide +kernel
theorem dX0_weigh_29 : decode cX0_weigh 29 = .ok (.lconst 1, 1) := by decide +kernel
theorem dX0_weigh_30 : decode cX0_weigh 30 = .ok (.goto 4, 3) := by decide +kernel
theorem dX0_weigh_33 : decode cX0_weigh 33 = .ok (.lconst 0, 1) := by decide +kernel
theorem dX0_weigh_34 : decode cX0_weigh 34 = .ok (.lastore, 1) := by decide +kernel
theorem dX0_weigh_35 : decode cX0_weigh 35 = .ok (.iinc 3 1, 3) := by decide +kernel
theorem dX0_weigh_38 : decode cX0_weigh 38 = .ok (.goto (-28), 3) := by decide +kernel
theorem dX0_weigh_41 : decode cX0_weigh 41 = .ok (.aload_n 0, 1) := by decide +kernel
theorem dX0_weigh_42 : decode cX0_weigh 42 = .ok (.lconst 1, 1) := by decide +kernel
theorem dX0_weigh_43 : decode cX0_weigh 43 = .ok (.putfield 38, 3) := by decide +kernel
theorem dX0_weigh_46 : decode cX0_weigh 46 = .ok (.iconst 0, 1) := by decide +kernel
theorem dX0_weigh_47 : decode cX0_weigh 47 = .ok (.istore_n 3, 1) := by decide +kernel
theorem dX0_weigh_48 : decode cX0_weigh 48 = .ok (.iload_n 3, 1) := by decide +kernel
theorem dX0_weigh_49 : decode cX0_weigh 49 = .ok (.iload_n 2, 1) := by decide +kernel
theorem dX0_weigh_50 : decode cX0_weigh 50 = .ok (.if_icmp .ge 36, 3) := by decide +kernel
theorem dX0_weigh_53 : decode cX0_weigh 53 = .ok (.aload_n 0, 1) := by decide +kernel
theorem dX0_weigh_54 : decode cX0_weigh 54 = .ok (.aload_n 1, 1) := by decide +kernel
theorem dX0_weigh_55 : decode cX0_weigh 55 = .ok (.aload_n 1, 1) := by decide +kernel
theorem dX0_weigh_56 : decode cX0_weigh 56 = .ok (.getfield 42, 3) := by decide +kernel
theorem dX0_weigh_59 : decode cX0_weigh 59 = .ok (.iload_n 3, 1) := by decide +kernel
theorem dX0_weigh_60 : decode cX0_weigh 60 = .ok (.iadd, 1) := by decide +kernel
theorem dX0_weigh_61 : decode cX0_weigh 61 = .ok (.invokevirtual 45, 3) := by decide +kernel
theorem dX0_weigh_64 : decode cX0_weigh 64 = .ok (.aload_n 0, 1) := by decide +kernel
theorem dX0_weigh_65 : decode cX0_weigh 65 = .ok (.invokevirtual 49, 3) := by decide +kernel
theorem dX0_weigh_68 : decode cX0_weigh 68 = .ok (.aload_n 0, 1) := by decide +kernel
theorem dX0_weigh_69 : decode cX0_weigh 69 = .ok (.dup, 1) := by decide +kernel
theorem dX0_weigh_70 : decode cX0_weigh 70 = .ok (.getfield 38, 3) := by decide +kernel
theorem dX0_weigh_73 : decode cX0_weigh 73 = .ok (.ldc2_w 52, 3) := by decide +kernel
theorem dX0_weigh_76 : decode cX0_weigh 76 = .ok (.lmul, 1) := by decide +kernel
theorem dX0_weigh_77 : decode cX0_weigh 77 = .ok (.putfield 38, 3) := by decide +kernel
theorem dX0_weigh_80 : decode cX0_weigh 80 = .ok (.iinc 3 1, 3) := by decide +kernel
theorem dX0_weigh_83 : decode cX0_weigh 83 = .ok (.goto (-35), 3) := by decide +kernel
theorem dX0_weigh_86 : decode cX0_weigh 86 = .ok (.return_, 1) := by decide +kernel
theorem dX0_inLeastTerms_0 : decode cX0_inLeastTerms 0 = .ok (.lconst 0, 1) := by decide +kernel
theorem dX0_inLeastTerms_1 : decode cX0_inLeastTerms 1 = .ok (.lstore_n 3, 1) := by decide +kernel
theorem dX0_inLeastTerms_2 : decode cX0_inLeastTerms 2 = .ok (.iconst 1, 1) := by decide +kernel
theorem dX0_inLeastTerms_3 : decode cX0_inLeastTerms 3 = .ok (.istore 5, 2) := by decide +kernel
theorem dX0_inLeastTerms_5 : decode cX0_inLeastTerms 5 = .ok (.iload 5, 2) := by decide +kernel
theorem dX0_inLeastTerms_7 : decode cX0_inLeastTerms 7 = .ok (.bipush 16, 2) := by decide +kernel
theorem dX0_inLeastTerms_9 : decode cX0_inLeastTerms 9 = .ok (.if_icmp .ge 40, 3) := by decide +kernel
theorem dX0_inLeastTerms_12 : decode cX0_inLeastTerms 12 = .ok (.lload_n 3, 1) := by decide +kernel
theorem dX0_inLeastTerms_13 : decode cX0_inLeastTerms 13 = .ok (.iload_n 1, 1) := by decide +kernel
theorem dX0_inLeastTerms_14 : decode cX0_inLeastTerms 14 = .ok (.ifCond .eq 20, 3) := by decide +kernel
theorem dX0_inLeastTerms_17 : decode cX0_inLeastTerms 17 = .ok (.aload_n 0, 1) := by decide +kernel
theorem dX0_inLeastTerms_18 : decode cX0_inLeastTerms 18 = .ok (.getfield 11, 3) := by decide +kernel
theorem dX0_inLeastTerms_21 : decode cX0_inLeastTerms 21 = .ok (.iload 5, 2) := by decide +kernel
theorem dX0_inLeastTerms_23 : decode cX0_inLeastTerms 23 = .ok (.laload, 1) := by decide +kernel
theorem dX0_inLeastTerms_24 : decode cX0_inLeastTerms 24 = .ok (.iload 5, 2) := by decide +kernel
theorem dX0_inLeastTerms_26 : decode cX0_inLeastTerms 26 = .ok (.invokestatic 54, 3) := by decide +kernel
theorem dX0_inLeastTerms_29 : decode cX0_inLeastTerms 29 = .ok (.i2l, 1) := by decide +kernel
theorem dX0_inLeastTerms_30 : decode cX0_inLeastTerms 30 = .ok (.lmul, 1) := by decide +kernel
theorem dX0_inLeastTerms_31 : decode cX0_inLeastTerms 31 = .ok (.goto 10, 3) := by decide +kernel
theorem dX0_inLeastTerms_34 : decode cX0_inLeastTerms 34 = .ok (.aload_n 0, 1) := by decide +kernel
theorem dX0_inLeastTerms_35 : decode cX0_inLeastTerms 35 = .ok (.getfield 11, 3) := by decide +kernel
theorem dX0_inLeastTerms_38 : decode cX0_inLeastTerms 38 = .ok (.iload 5, 2) := by decide +kernel
theorem dX0_inLeastTerms_40 : decode cX0_inLeastTerms 40 = .ok (.laload, 1) := by decide +kernel
theorem dX0_inLeastTerms_41 : decode cX0_inLeastTerms 41 = .ok (.ladd, 1) := by decide +kernel
theorem dX0_inLeastTerms_42 : decode cX0_inLeastTerms 42 = .ok (.lstore_n 3, 1) := by decide +kernel
theorem dX0_inLeastTerms_43 : decode cX0_inLeastTerms 43 = .ok (.iinc 5 1, 3) := by decide +kernel
theorem dX0_inLeastTerms_46 : decode cX0_inLeastTerms 46 = .ok (.goto (-41), 3) := by decide +kernel
theorem dX0_inLeastTerms_49 : decode cX0_inLeastTerms 49 = .ok (.aload_n 0, 1) := by decide +kernel
theorem dX0_inLeastTerms_50 : decode cX0_inLeastTerms 50 = .ok (.getfield 38, 3) := by decide +kernel
theorem dX0_inLeastTerms_53 : decode cX0_inLeastTerms 53 = .ok (.lload_n 3, 1) := by decide +kernel
theorem dX0_inLeastTerms_54 : decode cX0_inLeastTerms 54 = .ok (.invokestatic 60, 3) := by decide +kernel
theorem dX0_inLeastTerms_57 : decode cX0_inLeastTerms 57 = .ok (.lstore 5, 2) := by decide +kernel
theorem dX0_inLeastTerms_59 : decode cX0_inLeastTerms 59 = .ok (.iload_n 2, 1) := by decide +kernel
theorem dX0_inLeastTerms_60 : decode cX0_inLeastTerms 60 = .ok (.ifCond .eq 10, 3) := by decide +kernel
theorem dX0_inLeastTerms_63 : decode cX0_inLeastTerms 63 = .ok (.aload_n 0, 1) := by decide +kernel
theorem dX0_inLeastTerms_64 : decode cX0_inLeastTerms 64 = .ok (.getfield 38, 3) := by decide +kernel
theorem dX0_inLeastTerms_67 : decode cX0_inLeastTerms 67 = .ok (.goto 4, 3) := by decide +kernel
theorem dX0_inLeastTerms_70 : decode cX0_inLeastTerms 70 = .ok (.lload_n 3, 1) := by decide +kernel
theorem dX0_inLeastTerms_71 : decode cX0_inLeastTerms 71 = .ok (.lconst 1, 1) := by decide +kernel
theorem dX0_inLeastTerms_72 : decode cX0_inLeastTerms 72 = .ok (.lload 5, 2) := by decide +kernel
theorem dX0_inLeastTerms_74 : decode cX0_inLeastTerms 74 = .ok (.invokestatic 64, 3) := by decide +kernel
theorem dX0_inLeastTerms_77 : decode cX0_inLeastTerms 77 = .ok (.ldiv, 1) := by decide +kernel
theorem dX0_inLeastTerms_78 : decode cX0_inLeastTerms 78 = .ok (.lreturn, 1) := by decide +kernel
theorem dX0_fillTenths_0 : decode cX0_fillTenths 0 = .ok (.iconst 0, 1) := by decide +kernel
theorem dX0_fillTenths_1 : decode cX0_fillTenths 1 = .ok (.istore_n 3, 1) := by decide +kernel
theorem dX0_fillTenths_2 : decode cX0_fillTenths 2 = .ok (.iload_n 3, 1) := by decide +kernel
theorem dX0_fillTenths_3 : decode cX0_fillTenths 3 = .ok (.iconst 4, 1) := by decide +kernel
theorem dX0_fillTenths_4 : decode cX0_fillTenths 4 = .ok (.if_icmp .ge 63, 3) := by decide +kernel
theorem dX0_fillTenths_7 : decode cX0_fillTenths 7 = .ok (.iconst 0, 1) := by decide +kernel
theorem dX0_fillTenths_8 : decode cX0_fillTenths 8 = .ok (.istore 4, 2) := by decide +kernel
theorem dX0_fillTenths_10 : decode cX0_fillTenths 10 = .ok (.aload_n 1, 1) := by decide +kernel
theorem dX0_fillTenths_11 : decode cX0_fillTenths 11 = .ok (.iload_n 3, 1) := by decide +kernel
theorem dX0_fillTenths_12 : decode cX0_fillTenths 12 = .ok (.invokevirtual 69, 3) := by decide +kernel
theorem dX0_fillTenths_15 : decode cX0_fillTenths 15 = .ok (.ifCond .eq 29, 3) := by decide +kernel
theorem dX0_fillTenths_18 : decode cX0_fillTenths 18 = .ok (.aload_n 1, 1) := by decide +kernel
theorem dX0_fillTenths_19 : decode cX0_fillTenths 19 = .ok (.getfield 73, 3) := by decide +kernel
theorem dX0_fillTenths_22 : decode cX0_fillTenths 22 = .ok (.iload_n 3, 1) := by decide +kernel
theorem dX0_fillTenths_23 : decode cX0_fillTenths 23 = .ok (.iaload, 1) := by decide +kernel
theorem dX0_fillTenths_24 : decode cX0_fillTenths 24 = .ok (.iconst 3, 1) := by decide +kernel
theorem dX0_fillTenths_25 : decode cX0_fillTenths 25 = .ok (.if_icmp .eq 19, 3) := by decide +kernel
theorem dX0_fillTenths_28 : decode cX0_fillTenths 28 = .ok (.aload_n 1, 1) := by decide +kernel
theorem dX0_fillTenths_29 : decode cX0_fillTenths 29 = .ok (.iload_n 3, 1) := by decide +kernel
theorem dX0_fillTenths_30 : decode cX0_fillTenths 30 = .ok (.iload_n 2, 1) := by decide +kernel
theorem dX0_fillTenths_31 : decode cX0_fillTenths 31 = .ok (.invokevirtual 76, 3) := by decide +kernel
theorem dX0_fillTenths_34 : decode cX0_fillTenths 34 = .ok (.aload_n 1, 1) := by decide +kernel
theorem dX0_fillTenths_35 : decode cX0_fillTenths 35 = .ok (.iload_n 3, 1) := by decide +kernel
theorem dX0_fillTenths_36 : decode cX0_fillTenths 36 = .ok (.invokevirtual 80, 3) := by decide +kernel
theorem dX0_fillTenths_39 : decode cX0_fillTenths 39 = .ok (.iconst 2, 1) := by decide +kernel
theorem dX0_fillTenths_40 : decode cX0_fillTenths 40 = .ok (.isub, 1) := by decide +kernel
theorem dX0_fillTenths_41 : decode cX0_fillTenths 41 = .ok (.isub, 1) := by decide +kernel
theorem dX0_fillTenths_42 : decode cX0_fillTenths 42 = .ok (.istore 4, 2) := by decide +kernel
theorem dX0_fillTenths_44 : decode cX0_fillTenths 44 = .ok (.aload_n 0, 1) := by decide +kernel
theorem dX0_fillTenths_45 : decode cX0_fillTenths 45 = .ok (.getfield 18, 3) := by decide +kernel
theorem dX0_fillTenths_48 : decode cX0_fillTenths 48 = .ok (.iload_n 3, 1) := by decide +kernel
theorem dX0_fillTenths_49 : decode cX0_fillTenths 49 = .ok (.iconst 0, 1) := by decide +kernel
theorem dX0_fillTenths_50 : decode cX0_fillTenths 50 = .ok (.bipush 9, 2) := by decide +kernel
theorem dX0_fillTenths_52 : decode cX0_fillTenths 52 = .ok (.iload 4, 2) := by decide +kernel
theorem dX0_fillTenths_54 : decode cX0_fillTenths 54 = .ok (.invokestatic 83, 3) := by decide +kernel
theorem dX0_fillTenths_57 : decode cX0_fillTenths 57 = .ok (.invokestatic 86, 3) := by decide +kernel
theorem dX0_fillTenths_60 : decode cX0_fillTenths 60 = .ok (.iastore, 1) := by decide +kernel
theorem dX0_fillTenths_61 : decode cX0_fillTenths 61 = .ok (.iinc 3 1, 3) := by decide +kernel
theorem dX0_fillTenths_64 : decode cX0_fillTenths 64 = .ok (.goto (-62), 3) := by decide +kernel
theorem dX0_fillTenths_67 : decode cX0_fillTenths 67 = .ok (.return_, 1) := by decide +kernel
theorem dX0_passChances_0 : decode cX0_passChances 0 = .ok (.iconst 0, 1) := by decide +kernel
theorem dX0_passChances_1 : decode cX0_passChances 1 = .ok (.istore_n 1, 1) := by decide +kernel
theorem dX0_passChances_2 : decode cX0_passChances 2 = .ok (.iload_n 1, 1) := by decide +kernel
theorem dX0_passChances_3 : decode cX0_passChances 3 = .ok (.bipush 16, 2) := by decide +kernel
theorem dX0_passChances_5 : decode cX0_passChances 5 = .ok (.if_icmp .ge 16, 3) := by decide +kernel
theorem dX0_passChances_8 : decode cX0_passChances 8 = .ok (.aload_n 0, 1) := by decide +kernel
theorem dX0_passChances_9 : decode cX0_passChances 9 = .ok (.getfield 15, 3) := by decide +kernel
theorem dX0_passChances_12 : decode cX0_passChances 12 = .ok (.iload_n 1, 1) := by decide +kernel
theorem dX0_passChances_13 : decode cX0_passChances 13 = .ok (.lconst 0, 1) := by decide +kernel
theorem dX0_passChances_14 : decode cX0_passChances 14 = .ok (.lastore, 1) := by decide +kernel
theorem dX0_passChances_15 : decode cX0_passChances 15 = .ok (.iinc 1 1, 3) := by decide +kernel
theorem dX0_passChances_18 : decode cX0_passChances 18 = .ok (.goto (-16), 3) := by decide +kernel
theorem dX0_passChances_21 : decode cX0_passChances 21 = .ok (.iconst 0, 1) := by decide +kernel
theorem dX0_passChances_22 : decode cX0_passChances 22 = .ok (.istore_n 1, 1) := by decide +kernel
theorem dX0_passChances_23 : decode cX0_passChances 23 = .ok (.iload_n 1, 1) := by decide +kernel
theorem dX0_passChances_24 : decode cX0_passChances 24 = .ok (.bipush 16, 2) := by decide +kernel
theorem dX0_passChances_26 : decode cX0_passChances 26 = .ok (.if_icmp .ge 79, 3) := by decide +kernel
theorem dX0_passChances_29 : decode cX0_passChances 29 = .ok (.iconst 0, 1) := by decide +kernel
theorem dX0_passChances_30 : decode cX0_passChances 30 = .ok (.istore_n 2, 1) := by decide +kernel
theorem dX0_passChances_31 : decode cX0_passChances 31 = .ok (.iload_n 2, 1) := by decide +kernel
theorem dX0_passChances_32 : decode cX0_passChances 32 = .ok (.iload_n 1, 1) := by decide +kernel
theorem dX0_passChances_33 : decode cX0_passChances 33 = .ok (.if_icmp .gt 66, 3) := by decide +kernel
theorem dX0_passChances_36 : decode cX0_passChances 36 = .ok (.aload_n 0, 1) := by decide +kernel
theorem dX0_passChances_37 : decode cX0_passChances 37 = .ok (.getfield 11, 3) := by decide +kernel
theorem dX0_passChances_40 : decode cX0_passChances 40 = .ok (.iload_n 1, 1) := by decide +kernel
theorem dX0_passChances_41 : decode cX0_passChances 41 = .ok (.laload, 1) := by decide +kernel
theorem dX0_passChances_42 : decode cX0_passChances 42 = .ok (.lconst 0, 1) := by decide +kernel
theorem dX0_passChances_43 : decode cX0_passChances 43 = .ok (.lcmp, 1) := by decide +kernel
theorem dX0_passChances_44 : decode cX0_passChances 44 = .ok (.ifCond .eq 49, 3) := by decide +kernel
theorem dX0_passChances_47 : decode cX0_passChances 47 = .ok (.iload_n 2, 1) := by decide +kernel
theorem dX0_passChances_48 : decode cX0_passChances 48 = .ok (.iload_n 1, 1) := by decide +kernel
theorem dX0_passChances_49 : decode cX0_passChances 49 = .ok (.iconst (-1), 1) := by decide +kernel
theorem dX0_passChances_50 : decode cX0_passChances 50 = .ok (.ixor, 1) := by decide +kernel
theorem dX0_passChances_51 : decode cX0_passChances 51 = .ok (.iand, 1) := by decide +kernel
theorem dX0_passChances_52 : decode cX0_passChances 52 = .ok (.ifCond .ne 41, 3) := by decide +kernel
theorem dX0_passChances_55 : decode cX0_passChances 55 = .ok (.aload_n 0, 1) := by decide +kernel
theorem dX0_passChances_56 : decode cX0_passChances 56 = .ok (.getfield 22, 3) := by decide +kernel
theorem dX0_passChances_59 : decode cX0_passChances 59 = .ok (.iload_n 1, 1) := by decide +kernel
theorem dX0_passChances_60 : decode cX0_passChances 60 = .ok (.iload_n 2, 1) := by decide +kernel
theorem dX0_passChances_61 : decode cX0_passChances 61 = .ok (.iconst (-1), 1) := by decide +kernel
theorem dX0_passChances_62 : decode cX0_passChances 62 = .ok (.ixor, 1) := by decide +kernel
theorem dX0_passChances_63 : decode cX0_passChances 63 = .ok (.iand, 1) := by decide +kernel
theorem dX0_passChances_64 : decode cX0_passChances 64 = .ok (.invokevirtual 88, 3) := by decide +kernel
theorem dX0_passChances_67 : decode cX0_passChances 67 = .ok (.bipush 15, 2) := by decide +kernel
theorem dX0_passChances_69 : decode cX0_passChances 69 = .ok (.iand, 1) := by decide +kernel
theorem dX0_passChances_70 : decode cX0_passChances 70 = .ok (.istore_n 3, 1) := by decide +kernel
theorem dX0_passChances_71 : decode cX0_passChances 71 = .ok (.aload_n 0, 1) := by decide +kernel
theorem dX0_passChances_72 : decode cX0_passChances 72 = .ok (.getfield 15, 3) := by decide +kernel
theorem dX0_passChances_75 : decode cX0_passChances 75 = .ok (.iload_n 3, 1) := by decide +kernel
theorem dX0_passChances_76 : decode cX0_passChances 76 = .ok (.dup2, 1) := by decide +kernel
theorem dX0_passChances_77 : decode cX0_passChances 77 = .ok (.laload, 1) := by decide +kernel
theorem dX0_passChances_78 : decode cX0_passChances 78 = .ok (.aload_n 0, 1) := by decide +kernel
theorem dX0_passChances_79 : decode cX0_passChances 79 = .ok (.getfield 11, 3) := by decide +kernel
theorem dX0_passChances_82 : decode cX0_passChances 82 = .ok (.iload_n 1, 1) := by decide +kernel
theorem dX0_passChances_83 : decode cX0_passChances 83 = .ok (.laload, 1) := by decide +kernel
theorem dX0_passChances_84 : decode cX0_passChances 84 = .ok (.aload_n 0, 1) := by decide +kernel
theorem dX0_passChances_85 : decode cX0_passChances 85 = .ok (.iload_n 1, 1) := by decide +kernel
theorem dX0_passChances_86 : decode cX0_passChances 86 = .ok (.iload_n 2, 1) := by decide +kernel
theorem dX0_passChances_87 : decode cX0_passChances 87 = .ok (.invokevirtual 91, 3) := by decide +kernel
theorem dX0_passChances_90 : decode cX0_passChances 90 = .ok (.lmul, 1) := by decide +kernel
theorem dX0_passChances_91 : decode cX0_passChances 91 = .ok (.ladd, 1) := by decide +kernel
theorem dX0_passChances_92 : decode cX0_passChances 92 = .ok (.lastore, 1) := by decide +kernel
theorem dX0_passChances_93 : decode cX0_passChances 93 = .ok (.iinc 2 1, 3) := by decide +kernel
theorem dX0_passChances_96 : decode cX0_passChances 96 = .ok (.goto (-65), 3) := by decide +kernel
theorem dX0_passChances_99 : decode cX0_passChances 99 = .ok (.iinc 1 1, 3) := by decide +kernel
theorem dX0_passChances_102 : decode cX0_passChances 102 = .ok (.goto (-79), 3) := by decide +kernel
theorem dX0_passChances_105 : decode cX0_passChances 105 = .ok (.aload_n 0, 1) := by decide +kernel
theorem dX0_passChances_106 : decode cX0_passChances 106 = .ok (.getfield 15, 3) := by decide +kernel
theorem dX0_passChances_109 : decode cX0_passChances 109 = .ok (.iconst 0, 1) := by decide +kernel
theorem dX0_passChances_110 : decode cX0_passChances 110 = .ok (.aload_n 0, 1) := by decide +kernel
theorem dX0_passChances_111 : decode cX0_passChances 111 = .ok (.getfield 11, 3) := by decide +kernel
theorem dX0_passChances_114 : decode cX0_passChances 114 = .ok (.iconst 0, 1) := by decide +kernel
theorem dX0_passChances_115 : decode cX0_passChances 115 = .ok (.bipush 16, 2) := by decide +kernel
theorem dX0_passChances_117 : decode cX0_passChances 117 = .ok (.invokestatic 95, 3) := by decide +kernel
theorem dX0_passChances_120 : decode cX0_passChances 120 = .ok (.return_, 1) := by decide +kernel
theorem dX0_partsOf_0 : decode cX0_partsOf 0 = .ok (.lconst 1, 1) := by decide +kernel
theorem dX0_partsOf_1 : decode cX0_partsOf 1 = .ok (.lstore_n 3, 1) := by decide +kernel
theorem dX0_partsOf_2 : decode cX0_partsOf 2 = .ok (.iconst 0, 1) := by decide +kernel
theorem dX0_partsOf_3 : decode cX0_partsOf 3 = .ok (.istore 5, 2) := by decide +kernel
theorem dX0_partsOf_5 : decode cX0_partsOf 5 = .ok (.iload 5, 2) := by decide +kernel
theorem dX0_partsOf_7 : decode cX0_partsOf 7 = .ok (.iconst 4, 1) := by decide +kernel
theorem dX0_partsOf_8 : decode cX0_partsOf 8 = .ok (.if_icmp .ge 61, 3) := by decide +kernel
theorem dX0_partsOf_11 : decode cX0_partsOf 11 = .ok (.iload_n 2, 1) := by decide +kernel
theorem dX0_partsOf_12 : decode cX0_partsOf 12 = .ok (.iload 5, 2) := by decide +kernel
theorem dX0_partsOf_14 : decode cX0_partsOf 14 = .ok (.invokestatic 101, 3) := by decide +kernel
theorem dX0_partsOf_17 : decode cX0_partsOf 17 = .ok (.ifCond .eq 17, 3) := by decide +kernel
theorem dX0_partsOf_20 : decode cX0_partsOf 20 = .ok (.lload_n 3, 1) := by decide +kernel
theorem dX0_partsOf_21 : decode cX0_partsOf 21 = .ok (.aload_n 0, 1) := by decide +kernel
theorem dX0_partsOf_22 : decode cX0_partsOf 22 = .ok (.getfield 18, 3) := by decide +kernel
theorem dX0_partsOf_25 : decode cX0_partsOf 25 = .ok (.iload 5, 2) := by decide +kernel
theorem dX0_partsOf_27 : decode cX0_partsOf 27 = .ok (.iaload, 1) := by decide +kernel
theorem dX0_partsOf_28 : decode cX0_partsOf 28 = .ok (.i2l, 1) := by decide +kernel
theorem dX0_partsOf_29 : decode cX0_partsOf 29 = .ok (.lmul, 1) := by decide +kernel
theorem dX0_partsOf_30 : decode cX0_partsOf 30 = .ok (.lstore_n 3, 1) := by decide +kernel
theorem dX0_partsOf_31 : decode cX0_partsOf 31 = .ok (.goto 32, 3) := by decide +kernel
theorem dX0_partsOf_34 : decode cX0_partsOf 34 = .ok (.lload_n 3, 1) := by decide +kernel
theorem dX0_partsOf_35 : decode cX0_partsOf 35 = .ok (.iload_n 1, 1) := by decide +kernel
theorem dX0_partsOf_36 : decode cX0_partsOf 36 = .ok (.iload 5, 2) := by decide +kernel
theorem dX0_partsOf_38 : decode cX0_partsOf 38 = .ok (.invokestatic 101, 3) := by decide +kernel
theorem dX0_partsOf_41 : decode cX0_partsOf 41 = .ok (.ifCond .eq 17, 3) := by decide +kernel
theorem dX0_partsOf_44 : decode cX0_partsOf 44 = .ok (.bipush 10, 2) := by decide +kernel
theorem dX0_partsOf_46 : decode cX0_partsOf 46 = .ok (.aload_n 0, 1) := by decide +kernel
theorem dX0_partsOf_47 : decode cX0_partsOf 47 = .ok (.getfield 18, 3) := by decide +kernel
theorem dX0_partsOf_50 : decode cX0_partsOf 50 = .ok (.iload 5, 2) := by decide +kernel
theorem dX0_partsOf_52 : decode cX0_partsOf 52 = .ok (.iaload, 1) := by decide +kernel
theorem dX0_partsOf_53 : decode cX0_partsOf 53 = .ok (.isub, 1) := by decide +kernel
theorem dX0_partsOf_54 : decode cX0_partsOf 54 = .ok (.i2l, 1) := by decide +kernel
theorem dX0_partsOf_55 : decode cX0_partsOf 55 = .ok (.goto 6, 3) := by decide +kernel
theorem dX0_partsOf_58 : decode cX0_partsOf 58 = .ok (.ldc2_w 105, 3) := by decide +kernel
theorem dX0_partsOf_61 : decode cX0_partsOf 61 = .ok (.lmul, 1) := by decide +kernel
theorem dX0_partsOf_62 : decode cX0_partsOf 62 = .ok (.lstore_n 3, 1) := by decide +kernel
theorem dX0_partsOf_63 : decode cX0_partsOf 63 = .ok (.iinc 5 1, 3) := by decide +kernel
theorem dX0_partsOf_66 : decode cX0_partsOf 66 = .ok (.goto (-61), 3) := by decide +kernel
theorem dX0_partsOf_69 : decode cX0_partsOf 69 = .ok (.lload_n 3, 1) := by decide +kernel
theorem dX0_partsOf_70 : decode cX0_partsOf 70 = .ok (.lreturn, 1) := by decide +kernel
theorem dX0_greatestCommon_0 : decode cX0_greatestCommon 0 = .ok (.lload_n 0, 1) := by decide +kernel
theorem dX0_greatestCommon_1 : decode cX0_greatestCommon 1 = .ok (.lstore 4, 2) := by decide +kernel
theorem dX0_greatestCommon_3 : decode cX0_greatestCommon 3 = .ok (.lload_n 2, 1) := by decide +kernel
theorem dX0_greatestCommon_4 : decode cX0_greatestCommon 4 = .ok (.lstore 6, 2) := by decide +kernel
theorem dX0_greatestCommon_6 : decode cX0_greatestCommon 6 = .ok (.iconst 0, 1) := by decide +kernel
theorem dX0_greatestCommon_7 : decode cX0_greatestCommon 7 = .ok (.istore 8, 2) := by decide +kernel
theorem dX0_greatestCommon_9 : decode cX0_greatestCommon 9 = .ok (.iload 8, 2) := by decide +kernel
theorem dX0_greatestCommon_11 : decode cX0_greatestCommon 11 = .ok (.sipush 200, 3) := by decide +kernel
theorem dX0_greatestCommon_14 : decode cX0_greatestCommon 14 = .ok (.if_icmp .ge 31, 3) := by decide +kernel
theorem dX0_greatestCommon_17 : decode cX0_greatestCommon 17 = .ok (.lload 6, 2) := by decide +kernel
theorem dX0_greatestCommon_19 : decode cX0_greatestCommon 19 = .ok (.lconst 0, 1) := by decide +kernel
theorem dX0_greatestCommon_20 : decode cX0_greatestCommon 20 = .ok (.lcmp, 1) := by decide +kernel
theorem dX0_greatestCommon_21 : decode cX0_greatestCommon 21 = .ok (.ifCond .eq 24, 3) := by decide +kernel
theorem dX0_greatestCommon_24 : decode cX0_greatestCommon 24 = .ok (.lload 4, 2) := by decide +kernel
theorem dX0_greatestCommon_26 : decode cX0_greatestCommon 26 = .ok (.lload 6, 2) := by decide +kernel
theorem dX0_greatestCommon_28 : decode cX0_greatestCommon 28 = .ok (.lrem, 1) := by decide +kernel
theorem dX0_greatestCommon_29 : decode cX0_greatestCommon 29 = .ok (.lstore 9, 2) := by decide +kernel
theorem dX0_greatestCommon_31 : decode cX0_greatestCommon 31 = .ok (.lload 6, 2) := by decide +kernel
theorem dX0_greatestCommon_33 : decode cX0_greatestCommon 33 = .ok (.lstore 4, 2) := by decide +kernel
theorem dX0_greatestCommon_35 : decode cX0_greatestCommon 35 = .ok (.lload 9, 2) := by decide +kernel
theorem dX0_greatestCommon_37 : decode cX0_greatestCommon 37 = .ok (.lstore 6, 2) := by decide +kernel
theorem dX0_greatestCommon_39 : decode cX0_greatestCommon 39 = .ok (.iinc 8 1, 3) := by decide +kernel
theorem dX0_greatestCommon_42 : decode cX0_greatestCommon 42 = .ok (.goto (-33), 3) := by decide +kernel
theorem dX0_greatestCommon_45 : decode cX0_greatestCommon 45 = .ok (.lload 4, 2) := by decide +kernel
theorem dX0_greatestCommon_47 : decode cX0_greatestCommon 47 = .ok (.lreturn, 1) := by decide +kernel
theorem dX1_init_0 : decode cX1_init 0 = .ok (.aload_n 0, 1) := by decide +kernel
theorem dX1_init_1 : decode cX1_init 1 = .ok (.invokespecial 3, 3) := by decide +kernel
theorem dX1_init_4 : decode cX1_init 4 = .ok (.aload_n 0, 1) := by decide +kernel
theorem dX1_init_5 : decode cX1_init 5 = .ok (.aload_n 1, 1) := by decide +kernel
theorem dX1_init_6 : decode cX1_init 6 = .ok (.putfield 9, 3) := by decide +kernel
theorem dX1_init_9 : decode cX1_init 9 = .ok (.aload_n 0, 1) := by decide +kernel
theorem dX1_init_10 : decode cX1_init 10 = .ok (.aload_n 2, 1) := by decide +kernel
theorem dX1_init_11 : decode cX1_init 11 = .ok (.putfield 15, 3) := by decide +kernel
theorem dX1_init_14 : decode cX1_init 14 = .ok (.aload_n 0, 1) := by decide +kernel
theorem dX1_init_15 : decode cX1_init 15 = .ok (.aload_n 3, 1) := by decide +kernel
theorem dX1_init_16 : decode cX1_init 16 = .ok (.putfield 18, 3) := by decide +kernel
theorem dX1_init_19 : decode cX1_init 19 = .ok (.aload_n 0, 1) := by decide +kernel
theorem dX1_init_20 : decode cX1_init 20 = .ok (.bipush 6, 2) := by decide +kernel
theorem dX1_init_22 : decode cX1_init 22 = .ok (.newarray .int, 2) := by decide +kernel
theorem dX1_init_24 : decode cX1_init 24 = .ok (.putfield 22, 3) := by decide +kernel
theorem dX1_init_27 : decode cX1_init 27 = .ok (.aload_n 0, 1) := by decide +kernel
theorem dX1_init_28 : decode cX1_init 28 = .ok (.bipush 9, 2) := by decide +kernel
theorem dX1_init_30 : decode cX1_init 30 = .ok (.newarray .int, 2) := by decide +kernel
theorem dX1_init_32 : decode cX1_init 32 = .ok (.putfield 26, 3) := by decide +kernel
theorem dX1_init_35 : decode cX1_init 35 = .ok (.return_, 1) := by decide +kernel
theorem dX1_lowered_0 : decode cX1_lowered 0 = .ok (.aload_n 0, 1) := by decide +kernel
theorem dX1_lowered_1 : decode cX1_lowered 1 = .ok (.aload_n 0, 1) := by decide +kernel
theorem dX1_lowered_2 : decode cX1_lowered 2 = .ok (.getfield 9, 3) := by decide +kernel
theorem dX1_lowered_5 : decode cX1_lowered 5 = .ok (.aload_n 0, 1) := by decide +kernel
theorem dX1_lowered_6 : decode cX1_lowered 6 = .ok (.aload_n 0, 1) := by decide +kernel
theorem dX1_lowered_7 : decode cX1_lowered 7 = .ok (.getfield 9, 3) := by decide +kernel
theorem dX1_lowered_10 : decode cX1_lowered 10 = .ok (.invokevirtual 29, 3) := by decide +kernel
theorem dX1_lowered_13 : decode cX1_lowered 13 = .ok (.invokevirtual 33, 3) := by decide +kernel
theorem dX1_lowered_16 : decode cX1_lowered 16 = .ok (.invokevirtual 39, 3) := by decide +kernel
theorem dX1_lowered_19 : decode cX1_lowered 19 = .ok (.iconst 0, 1) := by decide +kernel
theorem dX1_lowered_20 : decode cX1_lowered 20 = .ok (.istore_n 1, 1) := by decide +kernel
theorem dX1_lowered_21 : decode cX1_lowered 21 = .ok (.iload_n 1, 1) := by decide +kernel
theorem dX1_lowered_22 : decode cX1_lowered 22 = .ok (.aload_n 0, 1) := by decide +kernel
theorem dX1_lowered_23 : decode cX1_lowered 23 = .ok (.getfield 9, 3) := by decide +kernel
theorem dX1_lowered_26 : decode cX1_lowered 26 = .ok (.getfield 43, 3) := by decide +kernel
theorem dX1_lowered_29 : decode cX1_lowered 29 = .ok (.if_icmp .ge 49, 3) := by decide +kernel
theorem dX1_lowered_32 : decode cX1_lowered 32 = .ok (.aload_n 0, 1) := by decide +kernel
theorem dX1_lowered_33 : decode cX1_lowered 33 = .ok (.getfield 15, 3) := by decide +kernel
theorem dX1_lowered_36 : decode cX1_lowered 36 = .ok (.aload_n 0, 1) := by decide +kernel
theorem dX1_lowered_37 : decode cX1_lowered 37 = .ok (.getfield 9, 3) := by decide +kernel
theorem dX1_lowered_40 : decode cX1_lowered 40 = .ok (.invokevirtual 47, 3) := by decide +kernel
theorem dX1_lowered_43 : decode cX1_lowered 43 = .ok (.aload_n 0, 1) := by decide +kernel
theorem dX1_lowered_44 : decode cX1_lowered 44 = .ok (.getfield 15, 3) := by decide +kernel
theorem dX1_lowered_47 : decode cX1_lowered 47 = .ok (.iload_n 1, 1) := by decide +kernel
theorem dX1_lowered_48 : decode cX1_lowered 48 = .ok (.iconst 2, 1) := by decide +kernel
theorem dX1_lowered_49 : decode cX1_lowered 49 = .ok (.invokevirtual 51, 3) := by decide +kernel
theorem dX1_lowered_52 : decode cX1_lowered 52 = .ok (.aload_n 0, 1) := by decide +kernel
theorem dX1_lowered_53 : decode cX1_lowered 53 = .ok (.iload_n 1, 1) := by decide +kernel
theorem dX1_lowered_54 : decode cX1_lowered 54 = .ok (.aload_n 0, 1) := by decide +kernel
theorem dX1_lowered_55 : decode cX1_lowered 55 = .ok (.getfield 15, 3) := by decide +kernel
theorem dX1_lowered_58 : decode cX1_lowered 58 = .ok (.aload_n 0, 1) := by decide +kernel
theorem dX1_lowered_59 : decode cX1_lowered 59 = .ok (.aload_n 0, 1) := by decide +kernel
theorem dX1_lowered_60 : decode cX1_lowered 60 = .ok (.getfield 15, 3) := by decide +kernel
theorem dX1_lowered_63 : decode cX1_lowered 63 = .ok (.invokevirtual 29, 3) := by decide +kernel
theorem dX1_lowered_66 : decode cX1_lowered 66 = .ok (.invokevirtual 33, 3) := by decide +kernel
theorem dX1_lowered_69 : decode cX1_lowered 69 = .ok (.invokevirtual 55, 3) := by decide +kernel
theorem dX1_lowered_72 : decode cX1_lowered 72 = .ok (.iinc 1 1, 3) := by decide +kernel
theorem dX1_lowered_75 : decode cX1_lowered 75 = .ok (.goto (-54), 3) := by decide +kernel
theorem dX1_lowered_78 : decode cX1_lowered 78 = .ok (.aload_n 0, 1) := by decide +kernel
theorem dX1_lowered_79 : decode cX1_lowered 79 = .ok (.getfield 58, 3) := by decide +kernel
theorem dX1_lowered_82 : decode cX1_lowered 82 = .ok (.ireturn, 1) := by decide +kernel
theorem dX1_exchanged_0 : decode cX1_exchanged 0 = .ok (.aload_n 0, 1) := by decide +kernel
theorem dX1_exchanged_1 : decode cX1_exchanged 1 = .ok (.aload_n 0, 1) := by decide +kernel
theorem dX1_exchanged_2 : decode cX1_exchanged 2 = .ok (.aload_n 0, 1) := by decide +kernel
theorem dX1_exchanged_3 : decode cX1_exchanged 3 = .ok (.getfield 9, 3) := by decide +kernel
theorem dX1_exchanged_6 : decode cX1_exchanged 6 = .ok (.invokevirtual 61, 3) := by decide +kernel
theorem dX1_exchanged_9 : decode cX1_exchanged 9 = .ok (.invokevirtual 39, 3) := by decide +kernel
theorem dX1_exchanged_12 : decode cX1_exchanged 12 = .ok (.iconst 0, 1) := by decide +kernel
theorem dX1_exchanged_13 : decode cX1_exchanged 13 = .ok (.istore_n 1, 1) := by decide +kernel
theorem dX1_exchanged_14 : decode cX1_exchanged 14 = .ok (.iload_n 1, 1) := by decide +kernel
theorem dX1_exchanged_15 : decode cX1_exchanged 15 = .ok (.aload_n 0, 1) := by decide +kernel
theorem dX1_exchanged_16 : decode cX1_exchanged 16 = .ok (.getfield 9, 3) := by decide +kernel
theorem dX1_exchanged_19 : decode cX1_exchanged 19 = .ok (.getfield 43, 3) := by decide +kernel
theorem dX1_exchanged_22 : decode cX1_exchanged 22 = .ok (.if_icmp .ge 85, 3) := by decide +kernel
theorem dX1_exchanged_25 : decode cX1_exchanged 25 = .ok (.iload_n 1, 1) := by decide +kernel
theorem dX1_exchanged_26 : decode cX1_exchanged 26 = .ok (.iconst 1, 1) := by decide +kernel
theorem dX1_exchanged_27 : decode cX1_exchanged 27 = .ok (.iadd, 1) := by decide +kernel
theorem dX1_exchanged_28 : decode cX1_exchanged 28 = .ok (.istore_n 2, 1) := by decide +kernel
theorem dX1_exchanged_29 : decode cX1_exchanged 29 = .ok (.iload_n 2, 1) := by decide +kernel
theorem dX1_exchanged_30 : decode cX1_exchanged 30 = .ok (.aload_n 0, 1) := by decide +kernel
theorem dX1_exchanged_31 : decode cX1_exchanged 31 = .ok (.getfield 9, 3) := by decide +kernel
theorem dX1_exchanged_34 : decode cX1_exchanged 34 = .ok (.getfield 43, 3) := by decide +kernel
theorem dX1_exchanged_37 : decode cX1_exchanged 37 = .ok (.if_icmp .ge 64, 3) := by decide +kernel
theorem dX1_exchanged_40 : decode cX1_exchanged 40 = .ok (.aload_n 0, 1) := by decide +kernel
theorem dX1_exchanged_41 : decode cX1_exchanged 41 = .ok (.getfield 15, 3) := by decide +kernel
theorem dX1_exchanged_44 : decode cX1_exchanged 44 = .ok (.aload_n 0, 1) := by decide +kernel
theorem dX1_exchanged_45 : decode cX1_exchanged 45 = .ok (.getfield 9, 3) := by decide +kernel
theorem dX1_exchanged_48 : decode cX1_exchanged 48 = .ok (.invokevirtual 47, 3) := by decide +kernel
theorem dX1_exchanged_51 : decode cX1_exchanged 51 = .ok (.aload_n 0, 1) := by decide +kernel
theorem dX1_exchanged_52 : decode cX1_exchanged 52 = .ok (.getfield 15, 3) := by decide +kernel
theorem dX1_exchanged_55 : decode cX1_exchanged 55 = .ok (.iload_n 1, 1) := by decide +kernel
theorem dX1_exchanged_56 : decode cX1_exchanged 56 = .ok (.aload_n 0, 1) := by decide +kernel
theorem dX1_exchanged_57 : decode cX1_exchanged 57 = .ok (.getfield 9, 3) := by decide +kernel
theorem dX1_exchanged_60 : decode cX1_exchanged 60 = .ok (.iload_n 2, 1) := by decide +kernel
theorem dX1_exchanged_61 : decode cX1_exchanged 61 = .ok (.invokevirtual 64, 3) := by decide +kernel
theorem dX1_exchanged_64 : decode cX1_exchanged 64 = .ok (.aload_n 0, 1) := by decide +kernel
theorem dX1_exchanged_65 : decode cX1_exchanged 65 = .ok (.getfield 15, 3) := by decide +kernel
theorem dX1_exchanged_68 : decode cX1_exchanged 68 = .ok (.iload_n 2, 1) := by decide +kernel
theorem dX1_exchanged_69 : decode cX1_exchanged 69 = .ok (.aload_n 0, 1) := by decide +kernel
theorem dX1_exchanged_70 : decode cX1_exchanged 70 = .ok (.getfield 9, 3) := by decide +kernel
theorem dX1_exchanged_73 : decode cX1_exchanged 73 = .ok (.iload_n 1, 1) := by decide +kernel
theorem dX1_exchanged_74 : decode cX1_exchanged 74 = .ok (.invokevirtual 64, 3) := by decide +kernel
theorem dX1_exchanged_77 : decode cX1_exchanged 77 = .ok (.aload_n 0, 1) := by decide +kernel
theorem dX1_exchanged_78 : decode cX1_exchanged 78 = .ok (.bipush 10, 2) := by decide +kernel
theorem dX1_exchanged_80 : decode cX1_exchanged 80 = .ok (.iload_n 1, 1) := by decide +kernel
theorem dX1_exchanged_81 : decode cX1_exchanged 81 = .ok (.imul, 1) := by decide +kernel
theorem dX1_exchanged_82 : decode cX1_exchanged 82 = .ok (.iload_n 2, 1) := by decide +kernel
theorem dX1_exchanged_83 : decode cX1_exchanged 83 = .ok (.iadd, 1) := by decide +kernel
theorem dX1_exchanged_84 : decode cX1_exchanged 84 = .ok (.aload_n 0, 1) := by decide +kernel
theorem dX1_exchanged_85 : decode cX1_exchanged 85 = .ok (.aload_n 0, 1) := by decide +kernel
theorem dX1_exchanged_86 : decode cX1_exchanged 86 = .ok (.getfield 15, 3) := by decide +kernel
theorem dX1_exchanged_89 : decode cX1_exchanged 89 = .ok (.invokevirtual 61, 3) := by decide +kernel
theorem dX1_exchanged_92 : decode cX1_exchanged 92 = .ok (.invokevirtual 55, 3) := by decide +kernel
theorem dX1_exchanged_95 : decode cX1_exchanged 95 = .ok (.iinc 2 1, 3) := by decide +kernel
theorem dX1_exchanged_98 : decode cX1_exchanged 98 = .ok (.goto (-69), 3) := by decide +kernel
theorem dX1_exchanged_101 : decode cX1_exchanged 101 = .ok (.iinc 1 1, 3) := by decide +kernel
theorem dX1_exchanged_104 : decode cX1_exchanged 104 = .ok (.goto (-90), 3) := by decide +kernel
theorem dX1_exchanged_107 : decode cX1_exchanged 107 = .ok (.aload_n 0, 1) := by decide +kernel
theorem dX1_exchanged_108 : decode cX1_exchanged 108 = .ok (.getfield 58, 3) := by decide +kernel
theorem dX1_exchanged_111 : decode cX1_exchanged 111 = .ok (.ireturn, 1) := by decide +kernel
theorem dX1_findOrder_0 : decode cX1_findOrder 0 = .ok (.aload_n 0, 1) := by decide +kernel
theorem dX1_findOrder_1 : decode cX1_findOrder 1 = .ok (.iconst (-1), 1) := by decide +kernel
theorem dX1_findOrder_2 : decode cX1_findOrder 2 = .ok (.invokevirtual 39, 3) := by decide +kernel
theorem dX1_findOrder_5 : decode cX1_findOrder 5 = .ok (.aload_n 0, 1) := by decide +kernel
theorem dX1_findOrder_6 : decode cX1_findOrder 6 = .ok (.getfield 15, 3) := by decide +kernel
theorem dX1_findOrder_9 : decode cX1_findOrder 9 = .ok (.aload_n 0, 1) := by decide +kernel
theorem dX1_findOrder_10 : decode cX1_findOrder 10 = .ok (.getfield 9, 3) := by decide +kernel
theorem dX1_findOrder_13 : decode cX1_findOrder 13 = .ok (.invokevirtual 47, 3) := by decide +kernel
theorem dX1_findOrder_16 : decode cX1_findOrder 16 = .ok (.aload_n 0, 1) := by decide +kernel
theorem dX1_findOrder_17 : decode cX1_findOrder 17 = .ok (.getfield 9, 3) := by decide +kernel
theorem dX1_findOrder_20 : decode cX1_findOrder 20 = .ok (.getfield 43, 3) := by decide +kernel
theorem dX1_findOrder_23 : decode cX1_findOrder 23 = .ok (.bipush 6, 2) := by decide +kernel
theorem dX1_findOrder_25 : decode cX1_findOrder 25 = .ok (.invokestatic 68, 3) := by decide +kernel
theorem dX1_findOrder_28 : decode cX1_findOrder 28 = .ok (.istore_n 1, 1) := by decide +kernel
theorem dX1_findOrder_29 : decode cX1_findOrder 29 = .ok (.iconst 1, 1) := by decide +kernel
theorem dX1_findOrder_30 : decode cX1_findOrder 30 = .ok (.istore_n 2, 1) := by decide +kernel
theorem dX1_findOrder_31 : decode cX1_findOrder 31 = .ok (.iconst 0, 1) := by decide +kernel
theorem dX1_findOrder_32 : decode cX1_findOrder 32 = .ok (.istore_n 3, 1) := by decide +kernel
theorem dX1_findOrder_33 : decode cX1_findOrder 33 = .ok (.iload_n 3, 1) := by decide +kernel
theorem dX1_findOrder_34 : decode cX1_findOrder 34 = .ok (.iload_n 1, 1) := by decide +kernel
theorem dX1_findOrder_35 : decode cX1_findOrder 35 = .ok (.if_icmp .ge 22, 3) := by decide +kernel
theorem dX1_findOrder_38 : decode cX1_findOrder 38 = .ok (.aload_n 0, 1) := by decide +kernel
theorem dX1_findOrder_39 : decode cX1_findOrder 39 = .ok (.getfield 22, 3) := by decide +kernel
theorem dX1_findOrder_42 : decode cX1_findOrder 42 = .ok (.iload_n 3, 1) := by decide +kernel
theorem dX1_findOrder_43 : decode cX1_findOrder 43 = .ok (.iload_n 3, 1) := by decide +kernel
theorem dX1_findOrder_44 : decode cX1_findOrder 44 = .ok (.iastore, 1) := by decide +kernel
theorem dX1_findOrder_45 : decode cX1_findOrder 45 = .ok (.iload_n 2, 1) := by decide +kernel
theorem dX1_findOrder_46 : decode cX1_findOrder 46 = .ok (.iload_n 3, 1) := by decide +kernel
theorem dX1_findOrder_47 : decode cX1_findOrder 47 = .ok (.iconst 1, 1) := by decide +kernel
theorem dX1_findOrder_48 : decode cX1_findOrder 48 = .ok (.iadd, 1) := by decide +kernel
theorem dX1_findOrder_49 : decode cX1_findOrder 49 = .ok (.imul, 1) := by decide +kernel
theorem dX1_findOrder_50 : decode cX1_findOrder 50 = .ok (.istore_n 2, 1) := by decide +kernel
theorem dX1_findOrder_51 : decode cX1_findOrder 51 = .ok (.iinc 3 1, 3) := by decide +kernel
theorem dX1_findOrder_54 : decode cX1_findOrder 54 = .ok (.goto (-21), 3) := by decide +kernel
theorem dX1_findOrder_57 : decode cX1_findOrder 57 = .ok (.iconst 0, 1) := by decide +kernel
theorem dX1_findOrder_58 : decode cX1_findOrder 58 = .ok (.istore_n 3, 1) := by decide +kernel
theorem dX1_findOrder_59 : decode cX1_findOrder 59 = .ok (.iload_n 3, 1) := by decide +kernel
theorem dX1_findOrder_60 : decode cX1_findOrder 60 = .ok (.iload_n 2, 1) := by decide +kernel
theorem dX1_findOrder_61 : decode cX1_findOrder 61 = .ok (.if_icmp .ge 66, 3) := by decide +kernel
theorem dX1_findOrder_64 : decode cX1_findOrder 64 = .ok (.iconst 0, 1) := by decide +kernel
theorem dX1_findOrder_65 : decode cX1_findOrder 65 = .ok (.istore 4, 2) := by decide +kernel
theorem dX1_findOrder_67 : decode cX1_findOrder 67 = .ok (.iload 4, 2) := by decide +kernel
theorem dX1_findOrder_69 : decode cX1_findOrder 69 = .ok (.iload_n 1, 1) := by decide +kernel
theorem dX1_findOrder_70 : decode cX1_findOrder 70 = .ok (.if_icmp .ge 29, 3) := by decide +kernel
theorem dX1_findOrder_73 : decode cX1_findOrder 73 = .ok (.aload_n 0, 1) := by decide +kernel
theorem dX1_findOrder_74 : decode cX1_findOrder 74 = .ok (.getfield 15, 3) := by decide +kernel
theorem dX1_findOrder_77 : decode cX1_findOrder 77 = .ok (.iload 4, 2) := by decide +kernel
theorem dX1_findOrder_79 : decode cX1_findOrder 79 = .ok (.aload_n 0, 1) := by decide +kernel
theorem dX1_findOrder_80 : decode cX1_findOrder 80 = .ok (.getfield 9, 3) := by decide +kernel
theorem dX1_findOrder_83 : decode cX1_findOrder 83 = .ok (.aload_n 0, 1) := by decide +kernel
theorem dX1_findOrder_84 : decode cX1_findOrder 84 = .ok (.getfield 22, 3) := by decide +kernel
theorem dX1_findOrder_87 : decode cX1_findOrder 87 = .ok (.iload 4, 2) := by decide +kernel
theorem dX1_findOrder_89 : decode cX1_findOrder 89 = .ok (.iaload, 1) := by decide +kernel
theorem dX1_findOrder_90 : decode cX1_findOrder 90 = .ok (.invokevirtual 64, 3) := by decide +kernel
theorem dX1_findOrder_93 : decode cX1_findOrder 93 = .ok (.iinc 4 1, 3) := by decide +kernel
theorem dX1_findOrder_96 : decode cX1_findOrder 96 = .ok (.goto (-29), 3) := by decide +kernel
theorem dX1_findOrder_99 : decode cX1_findOrder 99 = .ok (.aload_n 0, 1) := by decide +kernel
theorem dX1_findOrder_100 : decode cX1_findOrder 100 = .ok (.aload_n 0, 1) := by decide +kernel
theorem dX1_findOrder_101 : decode cX1_findOrder 101 = .ok (.iload_n 1, 1) := by decide +kernel
theorem dX1_findOrder_102 : decode cX1_findOrder 102 = .ok (.invokevirtual 74, 3) := by decide +kernel
theorem dX1_findOrder_105 : decode cX1_findOrder 105 = .ok (.aload_n 0, 1) := by decide +kernel
theorem dX1_findOrder_106 : decode cX1_findOrder 106 = .ok (.aload_n 0, 1) := by decide +kernel
theorem dX1_findOrder_107 : decode cX1_findOrder 107 = .ok (.getfield 15, 3) := by decide +kernel
theorem dX1_findOrder_110 : decode cX1_findOrder 110 = .ok (.invokevirtual 61, 3) := by decide +kernel
theorem dX1_findOrder_113 : decode cX1_findOrder 113 = .ok (.invokevirtual 55, 3) := by decide +kernel
theorem dX1_findOrder_116 : decode cX1_findOrder 116 = .ok (.aload_n 0, 1) := by decide +kernel
theorem dX1_findOrder_117 : decode cX1_findOrder 117 = .ok (.iload_n 1, 1) := by decide +kernel
theorem dX1_findOrder_118 : decode cX1_findOrder 118 = .ok (.invokevirtual 77, 3) := by decide +kernel
theorem dX1_findOrder_121 : decode cX1_findOrder 121 = .ok (.iinc 3 1, 3) := by decide +kernel
theorem dX1_findOrder_124 : decode cX1_findOrder 124 = .ok (.goto (-65), 3) := by decide +kernel
theorem dX1_findOrder_127 : decode cX1_findOrder 127 = .ok (.return_, 1) := by decide +kernel
theorem dX1_findLantern_0 : decode cX1_findLantern 0 = .ok (.aload_n 0, 1) := by decide +kernel
theorem dX1_findLantern_1 : decode cX1_findLantern 1 = .ok (.iconst (-1), 1) := by decide +kernel
theorem dX1_findLantern_2 : decode cX1_findLantern 2 = .ok (.invokevirtual 39, 3) := by decide +kernel
theorem dX1_findLantern_5 : decode cX1_findLantern 5 = .ok (.iconst 0, 1) := by decide +kernel
theorem dX1_findLantern_6 : decode cX1_findLantern 6 = .ok (.istore_n 1, 1) := by decide +kernel
theorem dX1_findLantern_7 : decode cX1_findLantern 7 = .ok (.iload_n 1, 1) := by decide +kernel
theorem dX1_findLantern_8 : decode cX1_findLantern 8 = .ok (.aload_n 0, 1) := by decide +kernel
theorem dX1_findLantern_9 : decode cX1_findLantern 9 = .ok (.getfield 9, 3) := by decide +kernel
theorem dX1_findLantern_12 : decode cX1_findLantern 12 = .ok (.getfield 43, 3) := by decide +kernel
theorem dX1_findLantern_15 : decode cX1_findLantern 15 = .ok (.if_icmp .ge 41, 3) := by decide +kernel
theorem dX1_findLantern_18 : decode cX1_findLantern 18 = .ok (.aload_n 0, 1) := by decide +kernel
theorem dX1_findLantern_19 : decode cX1_findLantern 19 = .ok (.getfield 15, 3) := by decide +kernel
theorem dX1_findLantern_22 : decode cX1_findLantern 22 = .ok (.aload_n 0, 1) := by decide +kernel
theorem dX1_findLantern_23 : decode cX1_findLantern 23 = .ok (.getfield 9, 3) := by decide +kernel
theorem dX1_findLantern_26 : decode cX1_findLantern 26 = .ok (.invokevirtual 47, 3) := by decide +kernel
theorem dX1_findLantern_29 : decode cX1_findLantern 29 = .ok (.aload_n 0, 1) := by decide +kernel
theorem dX1_findLantern_30 : decode cX1_findLantern 30 = .ok (.getfield 15, 3) := by decide +kernel
theorem dX1_findLantern_33 : decode cX1_findLantern 33 = .ok (.iload_n 1, 1) := by decide +kernel
theorem dX1_findLantern_34 : decode cX1_findLantern 34 = .ok (.invokevirtual 80, 3) := by decide +kernel
theorem dX1_findLantern_37 : decode cX1_findLantern 37 = .ok (.aload_n 0, 1) := by decide +kernel
theorem dX1_findLantern_38 : decode cX1_findLantern 38 = .ok (.iload_n 1, 1) := by decide +kernel
theorem dX1_findLantern_39 : decode cX1_findLantern 39 = .ok (.aload_n 0, 1) := by decide +kernel
theorem dX1_findLantern_40 : decode cX1_findLantern 40 = .ok (.aload_n 0, 1) := by decide +kernel
theorem dX1_findLantern_41 : decode cX1_findLantern 41 = .ok (.getfield 15, 3) := by decide +kernel
theorem dX1_findLantern_44 : decode cX1_findLantern 44 = .ok (.invokevirtual 61, 3) := by decide +kernel
theorem dX1_findLantern_47 : decode cX1_findLantern 47 = .ok (.invokevirtual 55, 3) := by decide +kernel
theorem dX1_findLantern_50 : decode cX1_findLantern 50 = .ok (.iinc 1 1, 3) := by decide +kernel
theorem dX1_findLantern_53 : decode cX1_findLantern 53 = .ok (.goto (-46), 3) := by decide +kernel
theorem dX1_findLantern_56 : decode cX1_findLantern 56 = .ok (.return_, 1) := by decide +kernel
theorem dX1_fewestLanterns_0 : decode cX1_fewestLanterns 0 = .ok (.aload_n 0, 1) := by decide +kernel
theorem dX1_fewestLanterns_1 : decode cX1_fewestLanterns 1 = .ok (.getfield 9, 3) := by decide +kernel
theorem dX1_fewestLanterns_4 : decode cX1_fewestLanterns 4 = .ok (.invokevirtual 83, 3) := by decide +kernel
theorem dX1_fewestLanterns_7 : decode cX1_fewestLanterns 7 = .ok (.istore_n 1, 1) := by decide +kernel
theorem dX1_fewestLanterns_8 : decode cX1_fewestLanterns 8 = .ok (.bipush (-9), 2) := by decide +kernel
theorem dX1_fewestLanterns_10 : decode cX1_fewestLanterns 10 = .ok (.istore_n 2, 1) := by decide +kernel
theorem dX1_fewestLanterns_11 : decode cX1_fewestLanterns 11 = .ok (.bipush 9, 2) := by decide +kernel
theorem dX1_fewestLanterns_13 : decode cX1_fewestLanterns 13 = .ok (.istore_n 3, 1) := by decide +kernel
theorem dX1_fewestLanterns_14 : decode cX1_fewestLanterns 14 = .ok (.iconst 0, 1) := by decide +kernel
theorem dX1_fewestLanterns_15 : decode cX1_fewestLanterns 15 = .ok (.istore 4, 2) := by decide +kernel
theorem dX1_fewestLanterns_17 : decode cX1_fewestLanterns 17 = .ok (.iload 4, 2) := by decide +kernel
theorem dX1_fewestLanterns_19 : decode cX1_fewestLanterns 19 = .ok (.iload_n 1, 1) := by decide +kernel
theorem dX1_fewestLanterns_20 : decode cX1_fewestLanterns 20 = .ok (.if_icmp .gt 37, 3) := by decide +kernel
theorem dX1_fewestLanterns_23 : decode cX1_fewestLanterns 23 = .ok (.iload 4, 2) := by decide +kernel
theorem dX1_fewestLanterns_25 : decode cX1_fewestLanterns 25 = .ok (.invokestatic 87, 3) := by decide +kernel
theorem dX1_fewestLanterns_28 : decode cX1_fewestLanterns 28 = .ok (.istore 5, 2) := by decide +kernel
theorem dX1_fewestLanterns_30 : decode cX1_fewestLanterns 30 = .ok (.iload 5, 2) := by decide +kernel
theorem dX1_fewestLanterns_32 : decode cX1_fewestLanterns 32 = .ok (.iload_n 3, 1) := by decide +kernel
theorem dX1_fewestLanterns_33 : decode cX1_fewestLanterns 33 = .ok (.if_icmp .ge 18, 3) := by decide +kernel
theorem dX1_fewestLanterns_36 : decode cX1_fewestLanterns 36 = .ok (.aload_n 0, 1) := by decide +kernel
theorem dX1_fewestLanterns_37 : decode cX1_fewestLanterns 37 = .ok (.iload 4, 2) := by decide +kernel
theorem dX1_fewestLanterns_39 : decode cX1_fewestLanterns 39 = .ok (.invokevirtual 92, 3) := by decide +kernel
theorem dX1_fewestLanterns_42 : decode cX1_fewestLanterns 42 = .ok (.ifCond .eq 9, 3) := by decide +kernel
theorem dX1_fewestLanterns_45 : decode cX1_fewestLanterns 45 = .ok (.iload 4, 2) := by decide +kernel
theorem dX1_fewestLanterns_47 : decode cX1_fewestLanterns 47 = .ok (.istore_n 2, 1) := by decide +kernel
theorem dX1_fewestLanterns_48 : decode cX1_fewestLanterns 48 = .ok (.iload 5, 2) := by decide +kernel
theorem dX1_fewestLanterns_50 : decode cX1_fewestLanterns 50 = .ok (.istore_n 3, 1) := by decide +kernel
theorem dX1_fewestLanterns_51 : decode cX1_fewestLanterns 51 = .ok (.iinc 4 1, 3) := by decide +kernel
theorem dX1_fewestLanterns_54 : decode cX1_fewestLanterns 54 = .ok (.goto (-37), 3) := by decide +kernel
theorem dX1_fewestLanterns_57 : decode cX1_fewestLanterns 57 = .ok (.iload_n 2, 1) := by decide +kernel
theorem dX1_fewestLanterns_58 : decode cX1_fewestLanterns 58 = .ok (.ireturn, 1) := by decide +kernel
theorem dX1_leftBehind_0 : decode cX1_leftBehind 0 = .ok (.iconst 0, 1) := by decide +kernel
theorem dX1_leftBehind_1 : decode cX1_leftBehind 1 = .ok (.istore_n 1, 1) := by decide +kernel
theorem dX1_leftBehind_2 : decode cX1_leftBehind 2 = .ok (.iconst 0, 1) := by decide +kernel
theorem dX1_leftBehind_3 : decode cX1_leftBehind 3 = .ok (.istore_n 2, 1) := by decide +kernel
theorem dX1_leftBehind_4 : decode cX1_leftBehind 4 = .ok (.iconst 1, 1) := by decide +kernel
theorem dX1_leftBehind_5 : decode cX1_leftBehind 5 = .ok (.istore_n 3, 1) := by decide +kernel
theorem dX1_leftBehind_6 : decode cX1_leftBehind 6 = .ok (.iconst 0, 1) := by decide +kernel
theorem dX1_leftBehind_7 : decode cX1_leftBehind 7 = .ok (.istore 4, 2) := by decide +kernel
theorem dX1_leftBehind_9 : decode cX1_leftBehind 9 = .ok (.iload 4, 2) := by decide +kernel
theorem dX1_leftBehind_11 : decode cX1_leftBehind 11 = .ok (.aload_n 0, 1) := by decide +kernel
theorem dX1_leftBehind_12 : decode cX1_leftBehind 12 = .ok (.getfield 9, 3) := by decide +kernel
theorem dX1_leftBehind_15 : decode cX1_leftBehind 15 = .ok (.getfield 43, 3) := by decide +kernel
theorem dX1_leftBehind_18 : decode cX1_leftBehind 18 = .ok (.if_icmp .ge 101, 3) := by decide +kernel
theorem dX1_leftBehind_21 : decode cX1_leftBehind 21 = .ok (.aload_n 0, 1) := by decide +kernel
theorem dX1_leftBehind_22 : decode cX1_leftBehind 22 = .ok (.getfield 15, 3) := by decide +kernel
theorem dX1_leftBehind_25 : decode cX1_leftBehind 25 = .ok (.aload_n 0, 1) := by decide +kernel
theorem dX1_leftBehind_26 : decode cX1_leftBehind 26 = .ok (.getfield 9, 3) := by decide +kernel
theorem dX1_leftBehind_29 : decode cX1_leftBehind 29 = .ok (.invokevirtual 47, 3) := by decide +kernel
theorem dX1_leftBehind_32 : decode cX1_leftBehind 32 = .ok (.aload_n 0, 1) := by decide +kernel
theorem dX1_leftBehind_33 : decode cX1_leftBehind 33 = .ok (.getfield 15, 3) := by decide +kernel
theorem dX1_leftBehind_36 : decode cX1_leftBehind 36 = .ok (.aload_n 0, 1) := by decide +kernel
theorem dX1_leftBehind_37 : decode cX1_leftBehind 37 = .ok (.getfield 9, 3) := by decide +kernel
theorem dX1_leftBehind_40 : decode cX1_leftBehind 40 = .ok (.getfield 43, 3) := by decide +kernel
theorem dX1_leftBehind_43 : decode cX1_leftBehind 43 = .ok (.iload 4, 2) := by decide +kernel
theorem dX1_leftBehind_45 : decode cX1_leftBehind 45 = .ok (.isub, 1) := by decide +kernel
theorem dX1_leftBehind_46 : decode cX1_leftBehind 46 = .ok (.putfield 43, 3) := by decide +kernel
theorem dX1_leftBehind_49 : decode cX1_leftBehind 49 = .ok (.aload_n 0, 1) := by decide +kernel
theorem dX1_leftBehind_50 : decode cX1_leftBehind 50 = .ok (.getfield 15, 3) := by decide +kernel
theorem dX1_leftBehind_53 : decode cX1_leftBehind 53 = .ok (.dup, 1) := by decide +kernel
theorem dX1_leftBehind_54 : decode cX1_leftBehind 54 = .ok (.getfield 96, 3) := by decide +kernel
theorem dX1_leftBehind_57 : decode cX1_leftBehind 57 = .ok (.aload_n 0, 1) := by decide +kernel
theorem dX1_leftBehind_58 : decode cX1_leftBehind 58 = .ok (.getfield 15, 3) := by decide +kernel
theorem dX1_leftBehind_61 : decode cX1_leftBehind 61 = .ok (.invokevirtual 83, 3) := by decide +kernel
theorem dX1_leftBehind_64 : decode cX1_leftBehind 64 = .ok (.iand, 1) := by decide +kernel
theorem dX1_leftBehind_65 : decode cX1_leftBehind 65 = .ok (.putfield 96, 3) := by decide +kernel
theorem dX1_leftBehind_68 : decode cX1_leftBehind 68 = .ok (.aload_n 0, 1) := by decide +kernel
theorem dX1_leftBehind_69 : decode cX1_leftBehind 69 = .ok (.aload_n 0, 1) := by decide +kernel
theorem dX1_leftBehind_70 : decode cX1_leftBehind 70 = .ok (.getfield 15, 3) := by decide +kernel
theorem dX1_leftBehind_73 : decode cX1_leftBehind 73 = .ok (.invokevirtual 61, 3) := by decide +kernel
theorem dX1_leftBehind_76 : decode cX1_leftBehind 76 = .ok (.istore 5, 2) := by decide +kernel
theorem dX1_leftBehind_78 : decode cX1_leftBehind 78 = .ok (.iload 4, 2) := by decide +kernel
theorem dX1_leftBehind_80 : decode cX1_leftBehind 80 = .ok (.ifCond .eq 19, 3) := by decide +kernel
theorem dX1_leftBehind_83 : decode cX1_leftBehind 83 = .ok (.iload 5, 2) := by decide +kernel
theorem dX1_leftBehind_85 : decode cX1_leftBehind 85 = .ok (.iload_n 3, 1) := by decide +kernel
theorem dX1_leftBehind_86 : decode cX1_leftBehind 86 = .ok (.imul, 1) := by decide +kernel
theorem dX1_leftBehind_87 : decode cX1_leftBehind 87 = .ok (.iload_n 2, 1) := by decide +kernel
theorem dX1_leftBehind_88 : decode cX1_leftBehind 88 = .ok (.aload_n 0, 1) := by decide +kernel
theorem dX1_leftBehind_89 : decode cX1_leftBehind 89 = .ok (.getfield 15, 3) := by decide +kernel
theorem dX1_leftBehind_92 : decode cX1_leftBehind 92 = .ok (.getfield 43, 3) := by decide +kernel
theorem dX1_leftBehind_95 : decode cX1_leftBehind 95 = .ok (.imul, 1) := by decide +kernel
theorem dX1_leftBehind_96 : decode cX1_leftBehind 96 = .ok (.if_icmp .le 17, 3) := by decide +kernel
theorem dX1_leftBehind_99 : decode cX1_leftBehind 99 = .ok (.iload 4, 2) := by decide +kernel
theorem dX1_leftBehind_101 : decode cX1_leftBehind 101 = .ok (.istore_n 1, 1) := by decide +kernel
theorem dX1_leftBehind_102 : decode cX1_leftBehind 102 = .ok (.iload 5, 2) := by decide +kernel
theorem dX1_leftBehind_104 : decode cX1_leftBehind 104 = .ok (.istore_n 2, 1) := by decide +kernel
theorem dX1_leftBehind_105 : decode cX1_leftBehind 105 = .ok (.aload_n 0, 1) := by decide +kernel
theorem dX1_leftBehind_106 : decode cX1_leftBehind 106 = .ok (.getfield 15, 3) := by decide +kernel
theorem dX1_leftBehind_109 : decode cX1_leftBehind 109 = .ok (.getfield 43, 3) := by decide +kernel
theorem dX1_leftBehind_112 : decode cX1_leftBehind 112 = .ok (.istore_n 3, 1) := by decide +kernel
theorem dX1_leftBehind_113 : decode cX1_leftBehind 113 = .ok (.iinc 4 1, 3) := by decide +kernel
theorem dX1_leftBehind_116 : decode cX1_leftBehind 116 = .ok (.goto (-107), 3) := by decide +kernel
theorem dX1_leftBehind_119 : decode cX1_leftBehind 119 = .ok (.iload_n 1, 1) := by decide +kernel
theorem dX1_leftBehind_120 : decode cX1_leftBehind 120 = .ok (.ireturn, 1) := by decide +kernel
theorem dX1_bestSide_0 : decode cX1_bestSide 0 = .ok (.aload_n 0, 1) := by decide +kernel
theorem dX1_bestSide_1 : decode cX1_bestSide 1 = .ok (.iconst (-1), 1) := by decide +kernel
theorem dX1_bestSide_2 : decode cX1_bestSide 2 = .ok (.invokevirtual 39, 3) := by decide +kernel
theorem dX1_bestSide_5 : decode cX1_bestSide 5 = .ok (.iconst 0, 1) := by decide +kernel
theorem dX1_bestSide_6 : decode cX1_bestSide 6 = .ok (.istore_n 1, 1) := by decide +kernel
theorem dX1_bestSide_7 : decode cX1_bestSide 7 = .ok (.iload_n 1, 1) := by decide +kernel
theorem dX1_bestSide_8 : decode cX1_bestSide 8 = .ok (.iconst 2, 1) := by decide +kernel
theorem dX1_bestSide_9 : decode cX1_bestSide 9 = .ok (.if_icmp .gt 41, 3) := by decide +kernel
theorem dX1_bestSide_12 : decode cX1_bestSide 12 = .ok (.aload_n 0, 1) := by decide +kernel
theorem dX1_bestSide_13 : decode cX1_bestSide 13 = .ok (.getfield 15, 3) := by decide +kernel
theorem dX1_bestSide_16 : decode cX1_bestSide 16 = .ok (.aload_n 0, 1) := by decide +kernel
theorem dX1_bestSide_17 : decode cX1_bestSide 17 = .ok (.getfield 9, 3) := by decide +kernel
theorem dX1_bestSide_20 : decode cX1_bestSide 20 = .ok (.invokevirtual 47, 3) := by decide +kernel
theorem dX1_bestSide_23 : decode cX1_bestSide 23 = .ok (.aload_n 0, 1) := by decide +kernel
theorem dX1_bestSide_24 : decode cX1_bestSide 24 = .ok (.getfield 15, 3) := by decide +kernel
theorem dX1_bestSide_27 : decode cX1_bestSide 27 = .ok (.iload_n 1, 1) := by decide +kernel
theorem dX1_bestSide_28 : decode cX1_bestSide 28 = .ok (.invokevirtual 99, 3) := by decide +kernel
theorem dX1_bestSide_31 : decode cX1_bestSide 31 = .ok (.aload_n 0, 1) := by decide +kernel
theorem dX1_bestSide_32 : decode cX1_bestSide 32 = .ok (.iload_n 1, 1) := by decide +kernel
theorem dX1_bestSide_33 : decode cX1_bestSide 33 = .ok (.aload_n 0, 1) := by decide +kernel
theorem dX1_bestSide_34 : decode cX1_bestSide 34 = .ok (.aload_n 0, 1) := by decide +kernel
theorem dX1_bestSide_35 : decode cX1_bestSide 35 = .ok (.getfield 15, 3) := by decide +kernel
theorem dX1_bestSide_38 : decode cX1_bestSide 38 = .ok (.invokevirtual 61, 3) := by decide +kernel
theorem dX1_bestSide_41 : decode cX1_bestSide 41 = .ok (.invokevirtual 55, 3) := by decide +kernel
theorem dX1_bestSide_44 : decode cX1_bestSide 44 = .ok (.iinc 1 1, 3) := by decide +kernel
theorem dX1_bestSide_47 : decode cX1_bestSide 47 = .ok (.goto (-40), 3) := by decide +kernel
theorem dX1_bestSide_50 : decode cX1_bestSide 50 = .ok (.aload_n 0, 1) := by decide +kernel
theorem dX1_bestSide_51 : decode cX1_bestSide 51 = .ok (.getfield 58, 3) := by decide +kernel
theorem dX1_bestSide_54 : decode cX1_bestSide 54 = .ok (.ireturn, 1) := by decide +kernel
theorem dX1_walkNights_0 : decode cX1_walkNights 0 = .ok (.aload_n 0, 1) := by decide +kernel
theorem dX1_walkNights_1 : decode cX1_walkNights 1 = .ok (.iload_n 2, 1) := by decide +kernel
theorem dX1_walkNights_2 : decode cX1_walkNights 2 = .ok (.putfield 102, 3) := by decide +kernel
theorem dX1_walkNights_5 : decode cX1_walkNights 5 = .ok (.aload_n 0, 1) := by decide +kernel
theorem dX1_walkNights_6 : decode cX1_walkNights 6 = .ok (.iconst 0, 1) := by decide +kernel
theorem dX1_walkNights_7 : decode cX1_walkNights 7 = .ok (.putfield 105, 3) := by decide +kernel
theorem dX1_walkNights_10 : decode cX1_walkNights 10 = .ok (.aload_n 0, 1) := by decide +kernel
theorem dX1_walkNights_11 : decode cX1_walkNights 11 = .ok (.iconst 0, 1) := by decide +kernel
theorem dX1_walkNights_12 : decode cX1_walkNights 12 = .ok (.putfield 108, 3) := by decide +kernel
theorem dX1_walkNights_15 : decode cX1_walkNights 15 = .ok (.aload_n 0, 1) := by decide +kernel
theorem dX1_walkNights_16 : decode cX1_walkNights 16 = .ok (.getfield 15, 3) := by decide +kernel
theorem dX1_walkNights_19 : decode cX1_walkNights 19 = .ok (.aload_n 0, 1) := by decide +kernel
theorem dX1_walkNights_20 : decode cX1_walkNights 20 = .ok (.getfield 9, 3) := by decide +kernel
theorem dX1_walkNights_23 : decode cX1_walkNights 23 = .ok (.invokevirtual 47, 3) := by decide +kernel
theorem dX1_walkNights_26 : decode cX1_walkNights 26 = .ok (.iconst 0, 1) := by decide +kernel
theorem dX1_walkNights_27 : decode cX1_walkNights 27 = .ok (.istore_n 3, 1) := by decide +kernel
theorem dX1_walkNights_28 : decode cX1_walkNights 28 = .ok (.iload_n 3, 1) := by decide +kernel
theorem dX1_walkNights_29 : decode cX1_walkNights 29 = .ok (.iload_n 1, 1) := by decide +kernel
theorem dX1_walkNights_30 : decode cX1_walkNights 30 = .ok (.if_icmp .ge 102, 3) := by decide +kernel
theorem dX1_walkNights_33 : decode cX1_walkNights 33 = .ok (.aload_n 0, 1) := by decide +kernel
theorem dX1_walkNights_34 : decode cX1_walkNights 34 = .ok (.getfield 9, 3) := by decide +kernel
theorem dX1_walkNights_37 : decode cX1_walkNights 37 = .ok (.getfield 111, 3) := by decide +kernel
theorem dX1_walkNights_40 : decode cX1_walkNights 40 = .ok (.istore 4, 2) := by decide +kernel
theorem dX1_walkNights_42 : decode cX1_walkNights 42 = .ok (.iload 4, 2) := by decide +kernel
theorem dX1_walkNights_44 : decode cX1_walkNights 44 = .ok (.bipush 24, 2) := by decide +kernel
theorem dX1_walkNights_46 : decode cX1_walkNights 46 = .ok (.if_icmp .gt 40, 3) := by decide +kernel
theorem dX1_walkNights_49 : decode cX1_walkNights 49 = .ok (.aload_n 0, 1) := by decide +kernel
theorem dX1_walkNights_50 : decode cX1_walkNights 50 = .ok (.getfield 15, 3) := by decide +kernel
theorem dX1_walkNights_53 : decode cX1_walkNights 53 = .ok (.getfield 114, 3) := by decide +kernel
theorem dX1_walkNights_56 : decode cX1_walkNights 56 = .ok (.iload 4, 2) := by decide +kernel
theorem dX1_walkNights_58 : decode cX1_walkNights 58 = .ok (.aload_n 0, 1) := by decide +kernel
theorem dX1_walkNights_59 : decode cX1_walkNights 59 = .ok (.bipush 10, 2) := by decide +kernel
theorem dX1_walkNights_61 : decode cX1_walkNights 61 = .ok (.invokevirtual 117, 3) := by decide +kernel
theorem dX1_walkNights_64 : decode cX1_walkNights 64 = .ok (.iastore, 1) := by decide +kernel
theorem dX1_walkNights_65 : decode cX1_walkNights 65 = .ok (.aload_n 0, 1) := by decide +kernel
theorem dX1_walkNights_66 : decode cX1_walkNights 66 = .ok (.getfield 15, 3) := by decide +kernel
theorem dX1_walkNights_69 : decode cX1_walkNights 69 = .ok (.getfield 120, 3) := by decide +kernel
theorem dX1_walkNights_72 : decode cX1_walkNights 72 = .ok (.iload 4, 2) := by decide +kernel
theorem dX1_walkNights_74 : decode cX1_walkNights 74 = .ok (.aload_n 0, 1) := by decide +kernel
theorem dX1_walkNights_75 : decode cX1_walkNights 75 = .ok (.iconst 3, 1) := by decide +kernel
theorem dX1_walkNights_76 : decode cX1_walkNights 76 = .ok (.invokevirtual 117, 3) := by decide +kernel
theorem dX1_walkNights_79 : decode cX1_walkNights 79 = .ok (.iastore, 1) := by decide +kernel
theorem dX1_walkNights_80 : decode cX1_walkNights 80 = .ok (.iinc 4 1, 3) := by decide +kernel
theorem dX1_walkNights_83 : decode cX1_walkNights 83 = .ok (.goto (-41), 3) := by decide +kernel
theorem dX1_walkNights_86 : decode cX1_walkNights 86 = .ok (.aload_n 0, 1) := by decide +kernel
theorem dX1_walkNights_87 : decode cX1_walkNights 87 = .ok (.aload_n 0, 1) := by decide +kernel
theorem dX1_walkNights_88 : decode cX1_walkNights 88 = .ok (.getfield 15, 3) := by decide +kernel
theorem dX1_walkNights_91 : decode cX1_walkNights 91 = .ok (.invokevirtual 61, 3) := by decide +kernel
theorem dX1_walkNights_94 : decode cX1_walkNights 94 = .ok (.istore 4, 2) := by decide +kernel
theorem dX1_walkNights_96 : decode cX1_walkNights 96 = .ok (.aload_n 0, 1) := by decide +kernel
theorem dX1_walkNights_97 : decode cX1_walkNights 97 = .ok (.dup, 1) := by decide +kernel
theorem dX1_walkNights_98 : decode cX1_walkNights 98 = .ok (.getfield 105, 3) := by decide +kernel
theorem dX1_walkNights_101 : decode cX1_walkNights 101 = .ok (.iload 4, 2) := by decide +kernel
theorem dX1_walkNights_103 : decode cX1_walkNights 103 = .ok (.iadd, 1) := by decide +kernel
theorem dX1_walkNights_104 : decode cX1_walkNights 104 = .ok (.putfield 105, 3) := by decide +kernel
theorem dX1_walkNights_107 : decode cX1_walkNights 107 = .ok (.aload_n 0, 1) := by decide +kernel
theorem dX1_walkNights_108 : decode cX1_walkNights 108 = .ok (.dup, 1) := by decide +kernel
theorem dX1_walkNights_109 : decode cX1_walkNights 109 = .ok (.getfield 108, 3) := by decide +kernel
theorem dX1_walkNights_112 : decode cX1_walkNights 112 = .ok (.iload 4, 2) := by decide +kernel
theorem dX1_walkNights_114 : decode cX1_walkNights 114 = .ok (.ifCond .ne 7, 3) := by decide +kernel
theorem dX1_walkNights_117 : decode cX1_walkNights 117 = .ok (.iconst 1, 1) := by decide +kernel
theorem dX1_walkNights_118 : decode cX1_walkNights 118 = .ok (.goto 4, 3) := by decide +kernel
theorem dX1_walkNights_121 : decode cX1_walkNights 121 = .ok (.iconst 0, 1) := by decide +kernel
theorem dX1_walkNights_122 : decode cX1_walkNights 122 = .ok (.iadd, 1) := by decide +kernel
theorem dX1_walkNights_123 : decode cX1_walkNights 123 = .ok (.putfield 108, 3) := by decide +kernel
theorem dX1_walkNights_126 : decode cX1_walkNights 126 = .ok (.iinc 3 1, 3) := by decide +kernel
theorem dX1_walkNights_129 : decode cX1_walkNights 129 = .ok (.goto (-101), 3) := by decide +kernel
theorem dX1_walkNights_132 : decode cX1_walkNights 132 = .ok (.return_, 1) := by decide +kernel
theorem dX1_findForm_0 : decode cX1_findForm 0 = .ok (.aload_n 0, 1) := by decide +kernel
theorem dX1_findForm_1 : decode cX1_findForm 1 = .ok (.iconst (-1), 1) := by decide +kernel
theorem dX1_findForm_2 : decode cX1_findForm 2 = .ok (.invokevirtual 39, 3) := by decide +kernel
theorem dX1_findForm_5 : decode cX1_findForm 5 = .ok (.aload_n 0, 1) := by decide +kernel
theorem dX1_findForm_6 : decode cX1_findForm 6 = .ok (.getfield 15, 3) := by decide +kernel
theorem dX1_findForm_9 : decode cX1_findForm 9 = .ok (.aload_n 0, 1) := by decide +kernel
theorem dX1_findForm_10 : decode cX1_findForm 10 = .ok (.getfield 9, 3) := by decide +kernel
theorem dX1_findForm_13 : decode cX1_findForm 13 = .ok (.invokevirtual 47, 3) := by decide +kernel
theorem dX1_findForm_16 : decode cX1_findForm 16 = .ok (.iconst 0, 1) := by decide +kernel
theorem dX1_findForm_17 : decode cX1_findForm 17 = .ok (.istore_n 1, 1) := by decide +kernel
theorem dX1_findForm_18 : decode cX1_findForm 18 = .ok (.iload_n 1, 1) := by decide +kernel
theorem dX1_findForm_19 : decode cX1_findForm 19 = .ok (.iconst 2, 1) := by decide +kernel
theorem dX1_findForm_20 : decode cX1_findForm 20 = .ok (.if_icmp .gt 56, 3) := by decide +kernel
theorem dX1_findForm_23 : decode cX1_findForm 23 = .ok (.iconst 1, 1) := by decide +kernel
theorem dX1_findForm_24 : decode cX1_findForm 24 = .ok (.istore_n 2, 1) := by decide +kernel
theorem dX1_findForm_25 : decode cX1_findForm 25 = .ok (.iload_n 2, 1) := by decide +kernel
theorem dX1_findForm_26 : decode cX1_findForm 26 = .ok (.iconst 2, 1) := by decide +kernel
theorem dX1_findForm_27 : decode cX1_findForm 27 = .ok (.if_icmp .gt 43, 3) := by decide +kernel
theorem dX1_findForm_30 : decode cX1_findForm 30 = .ok (.aload_n 0, 1) := by decide +kernel
theorem dX1_findForm_31 : decode cX1_findForm 31 = .ok (.getfield 15, 3) := by decide +kernel
theorem dX1_findForm_34 : decode cX1_findForm 34 = .ok (.iload_n 1, 1) := by decide +kernel
theorem dX1_findForm_35 : decode cX1_findForm 35 = .ok (.putfield 123, 3) := by decide +kernel
theorem dX1_findForm_38 : decode cX1_findForm 38 = .ok (.aload_n 0, 1) := by decide +kernel
theorem dX1_findForm_39 : decode cX1_findForm 39 = .ok (.getfield 15, 3) := by decide +kernel
theorem dX1_findForm_42 : decode cX1_findForm 42 = .ok (.iload_n 2, 1) := by decide +kernel
theorem dX1_findForm_43 : decode cX1_findForm 43 = .ok (.putfield 126, 3) := by decide +kernel
theorem dX1_findForm_46 : decode cX1_findForm 46 = .ok (.aload_n 0, 1) := by decide +kernel
theorem dX1_findForm_47 : decode cX1_findForm 47 = .ok (.bipush 10, 2) := by decide +kernel
theorem dX1_findForm_49 : decode cX1_findForm 49 = .ok (.iload_n 1, 1) := by decide +kernel
theorem dX1_findForm_50 : decode cX1_findForm 50 = .ok (.imul, 1) := by decide +kernel
theorem dX1_findForm_51 : decode cX1_findForm 51 = .ok (.iload_n 2, 1) := by decide +kernel
theorem dX1_findForm_52 : decode cX1_findForm 52 = .ok (.iadd, 1) := by decide +kernel
theorem dX1_findForm_53 : decode cX1_findForm 53 = .ok (.aload_n 0, 1) := by decide +kernel
theorem dX1_findForm_54 : decode cX1_findForm 54 = .ok (.aload_n 0, 1) := by decide +kernel
theorem dX1_findForm_55 : decode cX1_findForm 55 = .ok (.getfield 15, 3) := by decide +kernel
theorem dX1_findForm_58 : decode cX1_findForm 58 = .ok (.invokevirtual 61, 3) := by decide +kernel
theorem dX1_findForm_61 : decode cX1_findForm 61 = .ok (.invokevirtual 55, 3) := by decide +kernel
theorem dX1_findForm_64 : decode cX1_findForm 64 = .ok (.iinc 2 1, 3) := by decide +kernel
theorem dX1_findForm_67 : decode cX1_findForm 67 = .ok (.goto (-42), 3) := by decide +kernel
theorem dX1_findForm_70 : decode cX1_findForm 70 = .ok (.iinc 1 1, 3) := by decide +kernel
theorem dX1_findForm_73 : decode cX1_findForm 73 = .ok (.goto (-55), 3) := by decide +kernel
theorem dX1_findForm_76 : decode cX1_findForm 76 = .ok (.return_, 1) := by decide +kernel
theorem dX1_farthestDoor_0 : decode cX1_farthestDoor 0 = .ok (.aload_n 0, 1) := by decide +kernel
theorem dX1_farthestDoor_1 : decode cX1_farthestDoor 1 = .ok (.getfield 15, 3) := by decide +kernel
theorem dX1_farthestDoor_4 : decode cX1_farthestDoor 4 = .ok (.aload_n 0, 1) := by decide +kernel
theorem dX1_farthestDoor_5 : decode cX1_farthestDoor 5 = .ok (.getfield 9, 3) := by decide +kernel
theorem dX1_farthestDoor_8 : decode cX1_farthestDoor 8 = .ok (.invokevirtual 47, 3) := by decide +kernel
theorem dX1_farthestDoor_11 : decode cX1_farthestDoor 11 = .ok (.aload_n 0, 1) := by decide +kernel
theorem dX1_farthestDoor_12 : decode cX1_farthestDoor 12 = .ok (.getfield 15, 3) := by decide +kernel
theorem dX1_farthestDoor_15 : decode cX1_farthestDoor 15 = .ok (.bipush 24, 2) := by decide +kernel
theorem dX1_farthestDoor_17 : decode cX1_farthestDoor 17 = .ok (.putfield 129, 3) := by decide +kernel
theorem dX1_farthestDoor_20 : decode cX1_farthestDoor 20 = .ok (.aload_n 0, 1) := by decide +kernel
theorem dX1_farthestDoor_21 : decode cX1_farthestDoor 21 = .ok (.getfield 18, 3) := by decide +kernel
theorem dX1_farthestDoor_24 : decode cX1_farthestDoor 24 = .ok (.aload_n 0, 1) := by decide +kernel
theorem dX1_farthestDoor_25 : decode cX1_farthestDoor 25 = .ok (.getfield 15, 3) := by decide +kernel
theorem dX1_farthestDoor_28 : decode cX1_farthestDoor 28 = .ok (.invokevirtual 132, 3) := by decide +kernel
theorem dX1_farthestDoor_31 : decode cX1_farthestDoor 31 = .ok (.aload_n 0, 1) := by decide +kernel
theorem dX1_farthestDoor_32 : decode cX1_farthestDoor 32 = .ok (.getfield 18, 3) := by decide +kernel
theorem dX1_farthestDoor_35 : decode cX1_farthestDoor 35 = .ok (.aload_n 0, 1) := by decide +kernel
theorem dX1_farthestDoor_36 : decode cX1_farthestDoor 36 = .ok (.getfield 15, 3) := by decide +kernel
theorem dX1_farthestDoor_39 : decode cX1_farthestDoor 39 = .ok (.getfield 96, 3) := by decide +kernel
theorem dX1_farthestDoor_42 : decode cX1_farthestDoor 42 = .ok (.invokevirtual 137, 3) := by decide +kernel
theorem dX1_farthestDoor_45 : decode cX1_farthestDoor 45 = .ok (.iconst 1, 1) := by decide +kernel
theorem dX1_farthestDoor_46 : decode cX1_farthestDoor 46 = .ok (.aload_n 0, 1) := by decide +kernel
theorem dX1_farthestDoor_47 : decode cX1_farthestDoor 47 = .ok (.getfield 9, 3) := by decide +kernel
theorem dX1_farthestDoor_50 : decode cX1_farthestDoor 50 = .ok (.getfield 111, 3) := by decide +kernel
theorem dX1_farthestDoor_53 : decode cX1_farthestDoor 53 = .ok (.invokestatic 140, 3) := by decide +kernel
theorem dX1_farthestDoor_56 : decode cX1_farthestDoor 56 = .ok (.istore_n 1, 1) := by decide +kernel
theorem dX1_farthestDoor_57 : decode cX1_farthestDoor 57 = .ok (.bipush 24, 2) := by decide +kernel
theorem dX1_farthestDoor_59 : decode cX1_farthestDoor 59 = .ok (.istore_n 2, 1) := by decide +kernel
theorem dX1_farthestDoor_60 : decode cX1_farthestDoor 60 = .ok (.iload_n 2, 1) := by decide +kernel
theorem dX1_farthestDoor_61 : decode cX1_farthestDoor 61 = .ok (.iload_n 1, 1) := by decide +kernel
theorem dX1_farthestDoor_62 : decode cX1_farthestDoor 62 = .ok (.if_icmp .lt 31, 3) := by decide +kernel
theorem dX1_farthestDoor_65 : decode cX1_farthestDoor 65 = .ok (.aload_n 0, 1) := by decide +kernel
theorem dX1_farthestDoor_66 : decode cX1_farthestDoor 66 = .ok (.getfield 18, 3) := by decide +kernel
theorem dX1_farthestDoor_69 : decode cX1_farthestDoor 69 = .ok (.getfield 143, 3) := by decide +kernel
theorem dX1_farthestDoor_72 : decode cX1_farthestDoor 72 = .ok (.iload_n 2, 1) := by decide +kernel
theorem dX1_farthestDoor_73 : decode cX1_farthestDoor 73 = .ok (.aload_n 0, 1) := by decide +kernel
theorem dX1_farthestDoor_74 : decode cX1_farthestDoor 74 = .ok (.getfield 9, 3) := by decide +kernel
theorem dX1_farthestDoor_77 : decode cX1_farthestDoor 77 = .ok (.getfield 111, 3) := by decide +kernel
theorem dX1_farthestDoor_80 : decode cX1_farthestDoor 80 = .ok (.isub, 1) := by decide +kernel
theorem dX1_farthestDoor_81 : decode cX1_farthestDoor 81 = .ok (.iaload, 1) := by decide +kernel
theorem dX1_farthestDoor_82 : decode cX1_farthestDoor 82 = .ok (.ifCond .eq 5, 3) := by decide +kernel
theorem dX1_farthestDoor_85 : decode cX1_farthestDoor 85 = .ok (.iload_n 2, 1) := by decide +kernel
theorem dX1_farthestDoor_86 : decode cX1_farthestDoor 86 = .ok (.ireturn, 1) := by decide +kernel
theorem dX1_farthestDoor_87 : decode cX1_farthestDoor 87 = .ok (.iinc 2 (-1), 3) := by decide +kernel
theorem dX1_farthestDoor_90 : decode cX1_farthestDoor 90 = .ok (.goto (-30), 3) := by decide +kernel
theorem dX1_farthestDoor_93 : decode cX1_farthestDoor 93 = .ok (.bipush (-9), 2) := by decide +kernel
theorem dX1_farthestDoor_95 : decode cX1_farthestDoor 95 = .ok (.ireturn, 1) := by decide +kernel
theorem dX1_countTurned_0 : decode cX1_countTurned 0 = .ok (.aload_n 0, 1) := by decide +kernel
theorem dX1_countTurned_1 : decode cX1_countTurned 1 = .ok (.getfield 15, 3) := by decide +kernel
theorem dX1_countTurned_4 : decode cX1_countTurned 4 = .ok (.aload_n 0, 1) := by decide +kernel
theorem dX1_countTurned_5 : decode cX1_countTurned 5 = .ok (.getfield 9, 3) := by decide +kernel
theorem dX1_countTurned_8 : decode cX1_countTurned 8 = .ok (.invokevirtual 47, 3) := by decide +kernel
theorem dX1_countTurned_11 : decode cX1_countTurned 11 = .ok (.iconst 0, 1) := by decide +kernel
theorem dX1_countTurned_12 : decode cX1_countTurned 12 = .ok (.istore_n 1, 1) := by decide +kernel
theorem dX1_countTurned_13 : decode cX1_countTurned 13 = .ok (.iload_n 1, 1) := by decide +kernel
theorem dX1_countTurned_14 : decode cX1_countTurned 14 = .ok (.aload_n 0, 1) := by decide +kernel
theorem dX1_countTurned_15 : decode cX1_countTurned 15 = .ok (.getfield 9, 3) := by decide +kernel
theorem dX1_countTurned_18 : decode cX1_countTurned 18 = .ok (.getfield 43, 3) := by decide +kernel
theorem dX1_countTurned_21 : decode cX1_countTurned 21 = .ok (.if_icmp .ge 32, 3) := by decide +kernel
theorem dX1_countTurned_24 : decode cX1_countTurned 24 = .ok (.aload_n 0, 1) := by decide +kernel
theorem dX1_countTurned_25 : decode cX1_countTurned 25 = .ok (.getfield 15, 3) := by decide +kernel
theorem dX1_countTurned_28 : decode cX1_countTurned 28 = .ok (.iload_n 1, 1) := by decide +kernel
theorem dX1_countTurned_29 : decode cX1_countTurned 29 = .ok (.aload_n 0, 1) := by decide +kernel
theorem dX1_countTurned_30 : decode cX1_countTurned 30 = .ok (.getfield 9, 3) := by decide +kernel
theorem dX1_countTurned_33 : decode cX1_countTurned 33 = .ok (.aload_n 0, 1) := by decide +kernel
theorem dX1_countTurned_34 : decode cX1_countTurned 34 = .ok (.getfield 9, 3) := by decide +kernel
theorem dX1_countTurned_37 : decode cX1_countTurned 37 = .ok (.getfield 43, 3) := by decide +kernel
theorem dX1_countTurned_40 : decode cX1_countTurned 40 = .ok (.iconst 1, 1) := by decide +kernel
theorem dX1_countTurned_41 : decode cX1_countTurned 41 = .ok (.isub, 1) := by decide +kernel
theorem dX1_countTurned_42 : decode cX1_countTurned 42 = .ok (.iload_n 1, 1) := by decide +kernel
theorem dX1_countTurned_43 : decode cX1_countTurned 43 = .ok (.isub, 1) := by decide +kernel
theorem dX1_countTurned_44 : decode cX1_countTurned 44 = .ok (.invokevirtual 64, 3) := by decide +kernel
theorem dX1_countTurned_47 : decode cX1_countTurned 47 = .ok (.iinc 1 1, 3) := by decide +kernel
theorem dX1_countTurned_50 : decode cX1_countTurned 50 = .ok (.goto (-37), 3) := by decide +kernel
theorem dX1_countTurned_53 : decode cX1_countTurned 53 = .ok (.aload_n 0, 1) := by decide +kernel
theorem dX1_countTurned_54 : decode cX1_countTurned 54 = .ok (.aload_n 0, 1) := by decide +kernel
theorem dX1_countTurned_55 : decode cX1_countTurned 55 = .ok (.getfield 15, 3) := by decide +kernel
theorem dX1_countTurned_58 : decode cX1_countTurned 58 = .ok (.invokevirtual 61, 3) := by decide +kernel
theorem dX1_countTurned_61 : decode cX1_countTurned 61 = .ok (.ireturn, 1) := by decide +kernel
theorem dX1_kindsLit_0 : decode cX1_kindsLit 0 = .ok (.iconst 0, 1) := by decide +kernel
theorem dX1_kindsLit_1 : decode cX1_kindsLit 1 = .ok (.istore_n 2, 1) := by decide +kernel
theorem dX1_kindsLit_2 : decode cX1_kindsLit 2 = .ok (.iconst 0, 1) := by decide +kernel
theorem dX1_kindsLit_3 : decode cX1_kindsLit 3 = .ok (.istore_n 3, 1) := by decide +kernel
theorem dX1_kindsLit_4 : decode cX1_kindsLit 4 = .ok (.iload_n 3, 1) := by decide +kernel
theorem dX1_kindsLit_5 : decode cX1_kindsLit 5 = .ok (.bipush 6, 2) := by decide +kernel
theorem dX1_kindsLit_7 : decode cX1_kindsLit 7 = .ok (.if_icmp .gt 50, 3) := by decide +kernel
theorem dX1_kindsLit_10 : decode cX1_kindsLit 10 = .ok (.aload_n 0, 1) := by decide +kernel
theorem dX1_kindsLit_11 : decode cX1_kindsLit 11 = .ok (.getfield 15, 3) := by decide +kernel
theorem dX1_kindsLit_14 : decode cX1_kindsLit 14 = .ok (.aload_n 0, 1) := by decide +kernel
theorem dX1_kindsLit_15 : decode cX1_kindsLit 15 = .ok (.getfield 9, 3) := by decide +kernel
theorem dX1_kindsLit_18 : decode cX1_kindsLit 18 = .ok (.invokevirtual 47, 3) := by decide +kernel
theorem dX1_kindsLit_21 : decode cX1_kindsLit 21 = .ok (.aload_n 0, 1) := by decide +kernel
theorem dX1_kindsLit_22 : decode cX1_kindsLit 22 = .ok (.getfield 15, 3) := by decide +kernel
theorem dX1_kindsLit_25 : decode cX1_kindsLit 25 = .ok (.iload_n 1, 1) := by decide +kernel
theorem dX1_kindsLit_26 : decode cX1_kindsLit 26 = .ok (.iload_n 3, 1) := by decide +kernel
theorem dX1_kindsLit_27 : decode cX1_kindsLit 27 = .ok (.invokevirtual 51, 3) := by decide +kernel
theorem dX1_kindsLit_30 : decode cX1_kindsLit 30 = .ok (.aload_n 0, 1) := by decide +kernel
theorem dX1_kindsLit_31 : decode cX1_kindsLit 31 = .ok (.aload_n 0, 1) := by decide +kernel
theorem dX1_kindsLit_32 : decode cX1_kindsLit 32 = .ok (.getfield 15, 3) := by decide +kernel
theorem dX1_kindsLit_35 : decode cX1_kindsLit 35 = .ok (.invokevirtual 29, 3) := by decide +kernel
theorem dX1_kindsLit_38 : decode cX1_kindsLit 38 = .ok (.iload_n 1, 1) := by decide +kernel
theorem dX1_kindsLit_39 : decode cX1_kindsLit 39 = .ok (.invokestatic 146, 3) := by decide +kernel
theorem dX1_kindsLit_42 : decode cX1_kindsLit 42 = .ok (.ifCond .eq 9, 3) := by decide +kernel
theorem dX1_kindsLit_45 : decode cX1_kindsLit 45 = .ok (.iload_n 2, 1) := by decide +kernel
theorem dX1_kindsLit_46 : decode cX1_kindsLit 46 = .ok (.iconst 1, 1) := by decide +kernel
theorem dX1_kindsLit_47 : decode cX1_kindsLit 47 = .ok (.iload_n 3, 1) := by decide +kernel
theorem dX1_kindsLit_48 : decode cX1_kindsLit 48 = .ok (.ishl, 1) := by decide +kernel
theorem dX1_kindsLit_49 : decode cX1_kindsLit 49 = .ok (.ior, 1) := by decide +kernel
theorem dX1_kindsLit_50 : decode cX1_kindsLit 50 = .ok (.istore_n 2, 1) := by decide +kernel
theorem dX1_kindsLit_51 : decode cX1_kindsLit 51 = .ok (.iinc 3 1, 3) := by decide +kernel
theorem dX1_kindsLit_54 : decode cX1_kindsLit 54 = .ok (.goto (-50), 3) := by decide +kernel
theorem dX1_kindsLit_57 : decode cX1_kindsLit 57 = .ok (.iload_n 2, 1) := by decide +kernel
theorem dX1_kindsLit_58 : decode cX1_kindsLit 58 = .ok (.ireturn, 1) := by decide +kernel
theorem dX1_fillGame_0 : decode cX1_fillGame 0 = .ok (.aload_n 0, 1) := by decide +kernel
theorem dX1_fillGame_1 : decode cX1_fillGame 1 = .ok (.getfield 15, 3) := by decide +kernel
theorem dX1_fillGame_4 : decode cX1_fillGame 4 = .ok (.aload_n 0, 1) := by decide +kernel
theorem dX1_fillGame_5 : decode cX1_fillGame 5 = .ok (.getfield 9, 3) := by decide +kernel
theorem dX1_fillGame_8 : decode cX1_fillGame 8 = .ok (.invokevirtual 47, 3) := by decide +kernel
theorem dX1_fillGame_11 : decode cX1_fillGame 11 = .ok (.iconst 0, 1) := by decide +kernel
theorem dX1_fillGame_12 : decode cX1_fillGame 12 = .ok (.istore_n 1, 1) := by decide +kernel
theorem dX1_fillGame_13 : decode cX1_fillGame 13 = .ok (.iload_n 1, 1) := by decide +kernel
theorem dX1_fillGame_14 : decode cX1_fillGame 14 = .ok (.iconst 2, 1) := by decide +kernel
theorem dX1_fillGame_15 : decode cX1_fillGame 15 = .ok (.if_icmp .gt 56, 3) := by decide +kernel
theorem dX1_fillGame_18 : decode cX1_fillGame 18 = .ok (.iconst 0, 1) := by decide +kernel
theorem dX1_fillGame_19 : decode cX1_fillGame 19 = .ok (.istore_n 2, 1) := by decide +kernel
theorem dX1_fillGame_20 : decode cX1_fillGame 20 = .ok (.iload_n 2, 1) := by decide +kernel
theorem dX1_fillGame_21 : decode cX1_fillGame 21 = .ok (.iconst 2, 1) := by decide +kernel
theorem dX1_fillGame_22 : decode cX1_fillGame 22 = .ok (.if_icmp .gt 43, 3) := by decide +kernel
theorem dX1_fillGame_25 : decode cX1_fillGame 25 = .ok (.aload_n 0, 1) := by decide +kernel
theorem dX1_fillGame_26 : decode cX1_fillGame 26 = .ok (.getfield 15, 3) := by decide +kernel
theorem dX1_fillGame_29 : decode cX1_fillGame 29 = .ok (.iload_n 1, 1) := by decide +kernel
theorem dX1_fillGame_30 : decode cX1_fillGame 30 = .ok (.putfield 123, 3) := by decide +kernel
theorem dX1_fillGame_33 : decode cX1_fillGame 33 = .ok (.aload_n 0, 1) := by decide +kernel
theorem dX1_fillGame_34 : decode cX1_fillGame 34 = .ok (.getfield 15, 3) := by decide +kernel
theorem dX1_fillGame_37 : decode cX1_fillGame 37 = .ok (.iload_n 2, 1) := by decide +kernel
theorem dX1_fillGame_38 : decode cX1_fillGame 38 = .ok (.invokevirtual 99, 3) := by decide +kernel
theorem dX1_fillGame_41 : decode cX1_fillGame 41 = .ok (.aload_n 0, 1) := by decide +kernel
theorem dX1_fillGame_42 : decode cX1_fillGame 42 = .ok (.getfield 26, 3) := by decide +kernel
theorem dX1_fillGame_45 : decode cX1_fillGame 45 = .ok (.iconst 3, 1) := by decide +kernel
theorem dX1_fillGame_46 : decode cX1_fillGame 46 = .ok (.iload_n 1, 1) := by decide +kernel
theorem dX1_fillGame_47 : decode cX1_fillGame 47 = .ok (.imul, 1) := by decide +kernel
theorem dX1_fillGame_48 : decode cX1_fillGame 48 = .ok (.iload_n 2, 1) := by decide +kernel
theorem dX1_fillGame_49 : decode cX1_fillGame 49 = .ok (.iadd, 1) := by decide +kernel
theorem dX1_fillGame_50 : decode cX1_fillGame 50 = .ok (.aload_n 0, 1) := by decide +kernel
theorem dX1_fillGame_51 : decode cX1_fillGame 51 = .ok (.aload_n 0, 1) := by decide +kernel
theorem dX1_fillGame_52 : decode cX1_fillGame 52 = .ok (.getfield 15, 3) := by decide +kernel
theorem dX1_fillGame_55 : decode cX1_fillGame 55 = .ok (.invokevirtual 61, 3) := by decide +kernel
theorem dX1_fillGame_58 : decode cX1_fillGame 58 = .ok (.iastore, 1) := by decide +kernel
theorem dX1_fillGame_59 : decode cX1_fillGame 59 = .ok (.iinc 2 1, 3) := by decide +kernel
theorem dX1_fillGame_62 : decode cX1_fillGame 62 = .ok (.goto (-42), 3) := by decide +kernel
theorem dX1_fillGame_65 : decode cX1_fillGame 65 = .ok (.iinc 1 1, 3) := by decide +kernel
theorem dX1_fillGame_68 : decode cX1_fillGame 68 = .ok (.goto (-55), 3) := by decide +kernel
theorem dX1_fillGame_71 : decode cX1_fillGame 71 = .ok (.return_, 1) := by decide +kernel
theorem dX1_steadyPair_0 : decode cX1_steadyPair 0 = .ok (.iconst 0, 1) := by decide +kernel
theorem dX1_steadyPair_1 : decode cX1_steadyPair 1 = .ok (.istore_n 1, 1) := by decide +kernel
theorem dX1_steadyPair_2 : decode cX1_steadyPair 2 = .ok (.iload_n 1, 1) := by decide +kernel
theorem dX1_steadyPair_3 : decode cX1_steadyPair 3 = .ok (.iconst 2, 1) := by decide +kernel
theorem dX1_steadyPair_4 : decode cX1_steadyPair 4 = .ok (.if_icmp .gt 58, 3) := by decide +kernel
theorem dX1_steadyPair_7 : decode cX1_steadyPair 7 = .ok (.iconst 0, 1) := by decide +kernel
theorem dX1_steadyPair_8 : decode cX1_steadyPair 8 = .ok (.istore_n 2, 1) := by decide +kernel
theorem dX1_steadyPair_9 : decode cX1_steadyPair 9 = .ok (.iload_n 2, 1) := by decide +kernel
theorem dX1_steadyPair_10 : decode cX1_steadyPair 10 = .ok (.iconst 2, 1) := by decide +kernel
theorem dX1_steadyPair_11 : decode cX1_steadyPair 11 = .ok (.if_icmp .gt 45, 3) := by decide +kernel
theorem dX1_steadyPair_14 : decode cX1_steadyPair 14 = .ok (.aload_n 0, 1) := by decide +kernel
theorem dX1_steadyPair_15 : decode cX1_steadyPair 15 = .ok (.getfield 26, 3) := by decide +kernel
theorem dX1_steadyPair_18 : decode cX1_steadyPair 18 = .ok (.iconst 3, 1) := by decide +kernel
theorem dX1_steadyPair_19 : decode cX1_steadyPair 19 = .ok (.iload_n 1, 1) := by decide +kernel
theorem dX1_steadyPair_20 : decode cX1_steadyPair 20 = .ok (.imul, 1) := by decide +kernel
theorem dX1_steadyPair_21 : decode cX1_steadyPair 21 = .ok (.iload_n 2, 1) := by decide +kernel
theorem dX1_steadyPair_22 : decode cX1_steadyPair 22 = .ok (.iadd, 1) := by decide +kernel
theorem dX1_steadyPair_23 : decode cX1_steadyPair 23 = .ok (.iaload, 1) := by decide +kernel
theorem dX1_steadyPair_24 : decode cX1_steadyPair 24 = .ok (.istore_n 3, 1) := by decide +kernel
theorem dX1_steadyPair_25 : decode cX1_steadyPair 25 = .ok (.iload_n 3, 1) := by decide +kernel
theorem dX1_steadyPair_26 : decode cX1_steadyPair 26 = .ok (.aload_n 0, 1) := by decide +kernel
theorem dX1_steadyPair_27 : decode cX1_steadyPair 27 = .ok (.iload_n 1, 1) := by decide +kernel
theorem dX1_steadyPair_28 : decode cX1_steadyPair 28 = .ok (.invokevirtual 150, 3) := by decide +kernel
theorem dX1_steadyPair_31 : decode cX1_steadyPair 31 = .ok (.if_icmp .ne 19, 3) := by decide +kernel
theorem dX1_steadyPair_34 : decode cX1_steadyPair 34 = .ok (.iload_n 3, 1) := by decide +kernel
theorem dX1_steadyPair_35 : decode cX1_steadyPair 35 = .ok (.aload_n 0, 1) := by decide +kernel
theorem dX1_steadyPair_36 : decode cX1_steadyPair 36 = .ok (.iload_n 2, 1) := by decide +kernel
theorem dX1_steadyPair_37 : decode cX1_steadyPair 37 = .ok (.invokevirtual 153, 3) := by decide +kernel
theorem dX1_steadyPair_40 : decode cX1_steadyPair 40 = .ok (.if_icmp .ne 10, 3) := by decide +kernel
theorem dX1_steadyPair_43 : decode cX1_steadyPair 43 = .ok (.bipush 10, 2) := by decide +kernel
theorem dX1_steadyPair_45 : decode cX1_steadyPair 45 = .ok (.iload_n 1, 1) := by decide +kernel
theorem dX1_steadyPair_46 : decode cX1_steadyPair 46 = .ok (.imul, 1) := by decide +kernel
theorem dX1_steadyPair_47 : decode cX1_steadyPair 47 = .ok (.iload_n 2, 1) := by decide +kernel
theorem dX1_steadyPair_48 : decode cX1_steadyPair 48 = .ok (.iadd, 1) := by decide +kernel
theorem dX1_steadyPair_49 : decode cX1_steadyPair 49 = .ok (.ireturn, 1) := by decide +kernel
theorem dX1_steadyPair_50 : decode cX1_steadyPair 50 = .ok (.iinc 2 1, 3) := by decide +kernel
theorem dX1_steadyPair_53 : decode cX1_steadyPair 53 = .ok (.goto (-44), 3) := by decide +kernel
theorem dX1_steadyPair_56 : decode cX1_steadyPair 56 = .ok (.iinc 1 1, 3) := by decide +kernel
theorem dX1_steadyPair_59 : decode cX1_steadyPair 59 = .ok (.goto (-57), 3) := by decide +kernel
theorem dX1_steadyPair_62 : decode cX1_steadyPair 62 = .ok (.bipush (-9), 2) := by decide +kernel
theorem dX1_steadyPair_64 : decode cX1_steadyPair 64 = .ok (.ireturn, 1) := by decide +kernel
theorem dX1_sureNumber_0 : decode cX1_sureNumber 0 = .ok (.aload_n 0, 1) := by decide +kernel
theorem dX1_sureNumber_1 : decode cX1_sureNumber 1 = .ok (.iconst 0, 1) := by decide +kernel
theorem dX1_sureNumber_2 : decode cX1_sureNumber 2 = .ok (.invokevirtual 150, 3) := by decide +kernel
theorem dX1_sureNumber_5 : decode cX1_sureNumber 5 = .ok (.aload_n 0, 1) := by decide +kernel
theorem dX1_sureNumber_6 : decode cX1_sureNumber 6 = .ok (.iconst 1, 1) := by decide +kernel
theorem dX1_sureNumber_7 : decode cX1_sureNumber 7 = .ok (.invokevirtual 150, 3) := by decide +kernel
theorem dX1_sureNumber_10 : decode cX1_sureNumber 10 = .ok (.aload_n 0, 1) := by decide +kernel
theorem dX1_sureNumber_11 : decode cX1_sureNumber 11 = .ok (.iconst 2, 1) := by decide +kernel
theorem dX1_sureNumber_12 : decode cX1_sureNumber 12 = .ok (.invokevirtual 150, 3) := by decide +kernel
theorem dX1_sureNumber_15 : decode cX1_sureNumber 15 = .ok (.invokestatic 140, 3) := by decide +kernel
theorem dX1_sureNumber_18 : decode cX1_sureNumber 18 = .ok (.invokestatic 140, 3) := by decide +kernel
theorem dX1_sureNumber_21 : decode cX1_sureNumber 21 = .ok (.ireturn, 1) := by decide +kernel
theorem dX1_knownNumber_0 : decode cX1_knownNumber 0 = .ok (.aload_n 0, 1) := by decide +kernel
theorem dX1_knownNumber_1 : decode cX1_knownNumber 1 = .ok (.iconst 0, 1) := by decide +kernel
theorem dX1_knownNumber_2 : decode cX1_knownNumber 2 = .ok (.invokevirtual 153, 3) := by decide +kernel
theorem dX1_knownNumber_5 : decode cX1_knownNumber 5 = .ok (.aload_n 0, 1) := by decide +kernel
theorem dX1_knownNumber_6 : decode cX1_knownNumber 6 = .ok (.iconst 1, 1) := by decide +kernel
theorem dX1_knownNumber_7 : decode cX1_knownNumber 7 = .ok (.invokevirtual 153, 3) := by decide +kernel
theorem dX1_knownNumber_10 : decode cX1_knownNumber 10 = .ok (.aload_n 0, 1) := by decide +kernel
theorem dX1_knownNumber_11 : decode cX1_knownNumber 11 = .ok (.iconst 2, 1) := by decide +kernel
theorem dX1_knownNumber_12 : decode cX1_knownNumber 12 = .ok (.invokevirtual 153, 3) := by decide +kernel
theorem dX1_knownNumber_15 : decode cX1_knownNumber 15 = .ok (.invokestatic 68, 3) := by decide +kernel
theorem dX1_knownNumber_18 : decode cX1_knownNumber 18 = .ok (.invokestatic 68, 3) := by decide +kernel
theorem dX1_knownNumber_21 : decode cX1_knownNumber 21 = .ok (.ireturn, 1) := by decide +kernel
theorem dX1_fewestOfForm_0 : decode cX1_fewestOfForm 0 = .ok (.iconst 3, 1) := by decide +kernel
theorem dX1_fewestOfForm_1 : decode cX1_fewestOfForm 1 = .ok (.iload_n 1, 1) := by decide +kernel
theorem dX1_fewestOfForm_2 : decode cX1_fewestOfForm 2 = .ok (.imul, 1) := by decide +kernel
theorem dX1_fewestOfForm_3 : decode cX1_fewestOfForm 3 = .ok (.istore_n 2, 1) := by decide +kernel
theorem dX1_fewestOfForm_4 : decode cX1_fewestOfForm 4 = .ok (.aload_n 0, 1) := by decide +kernel
theorem dX1_fewestOfForm_5 : decode cX1_fewestOfForm 5 = .ok (.getfield 26, 3) := by decide +kernel
theorem dX1_fewestOfForm_8 : decode cX1_fewestOfForm 8 = .ok (.iload_n 2, 1) := by decide +kernel
theorem dX1_fewestOfForm_9 : decode cX1_fewestOfForm 9 = .ok (.iaload, 1) := by decide +kernel
theorem dX1_fewestOfForm_10 : decode cX1_fewestOfForm 10 = .ok (.aload_n 0, 1) := by decide +kernel
theorem dX1_fewestOfForm_11 : decode cX1_fewestOfForm 11 = .ok (.getfield 26, 3) := by decide +kernel
theorem dX1_fewestOfForm_14 : decode cX1_fewestOfForm 14 = .ok (.iload_n 2, 1) := by decide +kernel
theorem dX1_fewestOfForm_15 : decode cX1_fewestOfForm 15 = .ok (.iconst 1, 1) := by decide +kernel
theorem dX1_fewestOfForm_16 : decode cX1_fewestOfForm 16 = .ok (.iadd, 1) := by decide +kernel
theorem dX1_fewestOfForm_17 : decode cX1_fewestOfForm 17 = .ok (.iaload, 1) := by decide +kernel
theorem dX1_fewestOfForm_18 : decode cX1_fewestOfForm 18 = .ok (.aload_n 0, 1) := by decide +kernel
theorem dX1_fewestOfForm_19 : decode cX1_fewestOfForm 19 = .ok (.getfield 26, 3) := by decide +kernel
theorem dX1_fewestOfForm_22 : decode cX1_fewestOfForm 22 = .ok (.iload_n 2, 1) := by decide +kernel
theorem dX1_fewestOfForm_23 : decode cX1_fewestOfForm 23 = .ok (.iconst 2, 1) := by decide +kernel
theorem dX1_fewestOfForm_24 : decode cX1_fewestOfForm 24 = .ok (.iadd, 1) := by decide +kernel
theorem dX1_fewestOfForm_25 : decode cX1_fewestOfForm 25 = .ok (.iaload, 1) := by decide +kernel
theorem dX1_fewestOfForm_26 : decode cX1_fewestOfForm 26 = .ok (.invokestatic 68, 3) := by decide +kernel
theorem dX1_fewestOfForm_29 : decode cX1_fewestOfForm 29 = .ok (.invokestatic 68, 3) := by decide +kernel
theorem dX1_fewestOfForm_32 : decode cX1_fewestOfForm 32 = .ok (.ireturn, 1) := by decide +kernel
theorem dX1_mostOfSide_0 : decode cX1_mostOfSide 0 = .ok (.aload_n 0, 1) := by decide +kernel
theorem dX1_mostOfSide_1 : decode cX1_mostOfSide 1 = .ok (.getfield 26, 3) := by decide +kernel
theorem dX1_mostOfSide_4 : decode cX1_mostOfSide 4 = .ok (.iload_n 1, 1) := by decide +kernel
theorem dX1_mostOfSide_5 : decode cX1_mostOfSide 5 = .ok (.iaload, 1) := by decide +kernel
theorem dX1_mostOfSide_6 : decode cX1_mostOfSide 6 = .ok (.aload_n 0, 1) := by decide +kernel
theorem dX1_mostOfSide_7 : decode cX1_mostOfSide 7 = .ok (.getfield 26, 3) := by decide +kernel
theorem dX1_mostOfSide_10 : decode cX1_mostOfSide 10 = .ok (.iload_n 1, 1) := by decide +kernel
theorem dX1_mostOfSide_11 : decode cX1_mostOfSide 11 = .ok (.iconst 3, 1) := by decide +kernel
theorem dX1_mostOfSide_12 : decode cX1_mostOfSide 12 = .ok (.iadd, 1) := by decide +kernel
theorem dX1_mostOfSide_13 : decode cX1_mostOfSide 13 = .ok (.iaload, 1) := by decide +kernel
theorem dX1_mostOfSide_14 : decode cX1_mostOfSide 14 = .ok (.aload_n 0, 1) := by decide +kernel
theorem dX1_mostOfSide_15 : decode cX1_mostOfSide 15 = .ok (.getfield 26, 3) := by decide +kernel
theorem dX1_mostOfSide_18 : decode cX1_mostOfSide 18 = .ok (.iload_n 1, 1) := by decide +kernel
theorem dX1_mostOfSide_19 : decode cX1_mostOfSide 19 = .ok (.bipush 6, 2) := by decide +kernel
theorem dX1_mostOfSide_21 : decode cX1_mostOfSide 21 = .ok (.iadd, 1) := by decide +kernel
theorem dX1_mostOfSide_22 : decode cX1_mostOfSide 22 = .ok (.iaload, 1) := by decide +kernel
theorem dX1_mostOfSide_23 : decode cX1_mostOfSide 23 = .ok (.invokestatic 140, 3) := by decide +kernel
theorem dX1_mostOfSide_26 : decode cX1_mostOfSide 26 = .ok (.invokestatic 140, 3) := by decide +kernel
theorem dX1_mostOfSide_29 : decode cX1_mostOfSide 29 = .ok (.ireturn, 1) := by decide +kernel
theorem dX1_doorOf_0 : decode cX1_doorOf 0 = .ok (.aload_n 0, 1) := by decide +kernel
theorem dX1_doorOf_1 : decode cX1_doorOf 1 = .ok (.getfield 18, 3) := by decide +kernel
theorem dX1_doorOf_4 : decode cX1_doorOf 4 = .ok (.aload_n 1, 1) := by decide +kernel
theorem dX1_doorOf_5 : decode cX1_doorOf 5 = .ok (.invokevirtual 132, 3) := by decide +kernel
theorem dX1_doorOf_8 : decode cX1_doorOf 8 = .ok (.aload_n 0, 1) := by decide +kernel
theorem dX1_doorOf_9 : decode cX1_doorOf 9 = .ok (.getfield 18, 3) := by decide +kernel
theorem dX1_doorOf_12 : decode cX1_doorOf 12 = .ok (.iconst 0, 1) := by decide +kernel
theorem dX1_doorOf_13 : decode cX1_doorOf 13 = .ok (.aload_n 1, 1) := by decide +kernel
theorem dX1_doorOf_14 : decode cX1_doorOf 14 = .ok (.getfield 96, 3) := by decide +kernel
theorem dX1_doorOf_17 : decode cX1_doorOf 17 = .ok (.invokevirtual 156, 3) := by decide +kernel
theorem dX1_doorOf_20 : decode cX1_doorOf 20 = .ok (.ireturn, 1) := by decide +kernel
theorem dX1_countOf_0 : decode cX1_countOf 0 = .ok (.aload_n 0, 1) := by decide +kernel
theorem dX1_countOf_1 : decode cX1_countOf 1 = .ok (.getfield 18, 3) := by decide +kernel
theorem dX1_countOf_4 : decode cX1_countOf 4 = .ok (.aload_n 1, 1) := by decide +kernel
theorem dX1_countOf_5 : decode cX1_countOf 5 = .ok (.invokevirtual 132, 3) := by decide +kernel
theorem dX1_countOf_8 : decode cX1_countOf 8 = .ok (.aload_n 0, 1) := by decide +kernel
theorem dX1_countOf_9 : decode cX1_countOf 9 = .ok (.getfield 18, 3) := by decide +kernel
theorem dX1_countOf_12 : decode cX1_countOf 12 = .ok (.iconst 0, 1) := by decide +kernel
theorem dX1_countOf_13 : decode cX1_countOf 13 = .ok (.aload_n 1, 1) := by decide +kernel
theorem dX1_countOf_14 : decode cX1_countOf 14 = .ok (.getfield 96, 3) := by decide +kernel
theorem dX1_countOf_17 : decode cX1_countOf 17 = .ok (.invokevirtual 156, 3) := by decide +kernel
theorem dX1_countOf_20 : decode cX1_countOf 20 = .ok (.invokestatic 87, 3) := by decide +kernel
theorem dX1_countOf_23 : decode cX1_countOf 23 = .ok (.ireturn, 1) := by decide +kernel
theorem dX1_startSearch_0 : decode cX1_startSearch 0 = .ok (.aload_n 0, 1) := by decide +kernel
theorem dX1_startSearch_1 : decode cX1_startSearch 1 = .ok (.bipush (-9), 2) := by decide +kernel
theorem dX1_startSearch_3 : decode cX1_startSearch 3 = .ok (.putfield 58, 3) := by decide +kernel
theorem dX1_startSearch_6 : decode cX1_startSearch 6 = .ok (.aload_n 0, 1) := by decide +kernel
theorem dX1_startSearch_7 : decode cX1_startSearch 7 = .ok (.iload_n 1, 1) := by decide +kernel
theorem dX1_startSearch_8 : decode cX1_startSearch 8 = .ok (.putfield 159, 3) := by decide +kernel
theorem dX1_startSearch_11 : decode cX1_startSearch 11 = .ok (.return_, 1) := by decide +kernel
theorem dX1_consider_0 : decode cX1_consider 0 = .ok (.iload_n 2, 1) := by decide +kernel
theorem dX1_consider_1 : decode cX1_consider 1 = .ok (.aload_n 0, 1) := by decide +kernel
theorem dX1_consider_2 : decode cX1_consider 2 = .ok (.getfield 159, 3) := by decide +kernel
theorem dX1_consider_5 : decode cX1_consider 5 = .ok (.if_icmp .le 13, 3) := by decide +kernel
theorem dX1_consider_8 : decode cX1_consider 8 = .ok (.aload_n 0, 1) := by decide +kernel
theorem dX1_consider_9 : decode cX1_consider 9 = .ok (.iload_n 2, 1) := by decide +kernel
theorem dX1_consider_10 : decode cX1_consider 10 = .ok (.putfield 159, 3) := by decide +kernel
theorem dX1_consider_13 : decode cX1_consider 13 = .ok (.aload_n 0, 1) := by decide +kernel
theorem dX1_consider_14 : decode cX1_consider 14 = .ok (.iload_n 1, 1) := by decide +kernel
theorem dX1_consider_15 : decode cX1_consider 15 = .ok (.putfield 58, 3) := by decide +kernel
theorem dX1_consider_18 : decode cX1_consider 18 = .ok (.return_, 1) := by decide +kernel
theorem dX1_lanternsDo_0 : decode cX1_lanternsDo 0 = .ok (.aload_n 0, 1) := by decide +kernel
theorem dX1_lanternsDo_1 : decode cX1_lanternsDo 1 = .ok (.getfield 15, 3) := by decide +kernel
theorem dX1_lanternsDo_4 : decode cX1_lanternsDo 4 = .ok (.aload_n 0, 1) := by decide +kernel
theorem dX1_lanternsDo_5 : decode cX1_lanternsDo 5 = .ok (.getfield 9, 3) := by decide +kernel
theorem dX1_lanternsDo_8 : decode cX1_lanternsDo 8 = .ok (.invokevirtual 47, 3) := by decide +kernel
theorem dX1_lanternsDo_11 : decode cX1_lanternsDo 11 = .ok (.iconst 0, 1) := by decide +kernel
theorem dX1_lanternsDo_12 : decode cX1_lanternsDo 12 = .ok (.istore_n 2, 1) := by decide +kernel
theorem dX1_lanternsDo_13 : decode cX1_lanternsDo 13 = .ok (.iload_n 2, 1) := by decide +kernel
theorem dX1_lanternsDo_14 : decode cX1_lanternsDo 14 = .ok (.aload_n 0, 1) := by decide +kernel
theorem dX1_lanternsDo_15 : decode cX1_lanternsDo 15 = .ok (.getfield 9, 3) := by decide +kernel
theorem dX1_lanternsDo_18 : decode cX1_lanternsDo 18 = .ok (.getfield 43, 3) := by decide +kernel
theorem dX1_lanternsDo_21 : decode cX1_lanternsDo 21 = .ok (.if_icmp .ge 25, 3) := by decide +kernel
theorem dX1_lanternsDo_24 : decode cX1_lanternsDo 24 = .ok (.iload_n 1, 1) := by decide +kernel
theorem dX1_lanternsDo_25 : decode cX1_lanternsDo 25 = .ok (.iload_n 2, 1) := by decide +kernel
theorem dX1_lanternsDo_26 : decode cX1_lanternsDo 26 = .ok (.invokestatic 146, 3) := by decide +kernel
theorem dX1_lanternsDo_29 : decode cX1_lanternsDo 29 = .ok (.ifCond .eq 11, 3) := by decide +kernel
theorem dX1_lanternsDo_32 : decode cX1_lanternsDo 32 = .ok (.aload_n 0, 1) := by decide +kernel
theorem dX1_lanternsDo_33 : decode cX1_lanternsDo 33 = .ok (.getfield 15, 3) := by decide +kernel
theorem dX1_lanternsDo_36 : decode cX1_lanternsDo 36 = .ok (.iload_n 2, 1) := by decide +kernel
theorem dX1_lanternsDo_37 : decode cX1_lanternsDo 37 = .ok (.invokevirtual 80, 3) := by decide +kernel
theorem dX1_lanternsDo_40 : decode cX1_lanternsDo 40 = .ok (.iinc 2 1, 3) := by decide +kernel
theorem dX1_lanternsDo_43 : decode cX1_lanternsDo 43 = .ok (.goto (-30), 3) := by decide +kernel
theorem dX1_lanternsDo_46 : decode cX1_lanternsDo 46 = .ok (.aload_n 0, 1) := by decide +kernel
theorem dX1_lanternsDo_47 : decode cX1_lanternsDo 47 = .ok (.aload_n 0, 1) := by decide +kernel
theorem dX1_lanternsDo_48 : decode cX1_lanternsDo 48 = .ok (.getfield 15, 3) := by decide +kernel
theorem dX1_lanternsDo_51 : decode cX1_lanternsDo 51 = .ok (.invokevirtual 29, 3) := by decide +kernel
theorem dX1_lanternsDo_54 : decode cX1_lanternsDo 54 = .ok (.aload_n 0, 1) := by decide +kernel
theorem dX1_lanternsDo_55 : decode cX1_lanternsDo 55 = .ok (.getfield 15, 3) := by decide +kernel
theorem dX1_lanternsDo_58 : decode cX1_lanternsDo 58 = .ok (.invokevirtual 162, 3) := by decide +kernel
theorem dX1_lanternsDo_61 : decode cX1_lanternsDo 61 = .ok (.if_icmp .ne 7, 3) := by decide +kernel
theorem dX1_lanternsDo_64 : decode cX1_lanternsDo 64 = .ok (.iconst 1, 1) := by decide +kernel
theorem dX1_lanternsDo_65 : decode cX1_lanternsDo 65 = .ok (.goto 4, 3) := by decide +kernel
theorem dX1_lanternsDo_68 : decode cX1_lanternsDo 68 = .ok (.iconst 0, 1) := by decide +kernel
theorem dX1_lanternsDo_69 : decode cX1_lanternsDo 69 = .ok (.ireturn, 1) := by decide +kernel
theorem dX1_orderAsDigits_0 : decode cX1_orderAsDigits 0 = .ok (.iconst 0, 1) := by decide +kernel
theorem dX1_orderAsDigits_1 : decode cX1_orderAsDigits 1 = .ok (.istore_n 2, 1) := by decide +kernel
theorem dX1_orderAsDigits_2 : decode cX1_orderAsDigits 2 = .ok (.iload_n 1, 1) := by decide +kernel
theorem dX1_orderAsDigits_3 : decode cX1_orderAsDigits 3 = .ok (.iconst 1, 1) := by decide +kernel
theorem dX1_orderAsDigits_4 : decode cX1_orderAsDigits 4 = .ok (.isub, 1) := by decide +kernel
theorem dX1_orderAsDigits_5 : decode cX1_orderAsDigits 5 = .ok (.istore_n 3, 1) := by decide +kernel
theorem dX1_orderAsDigits_6 : decode cX1_orderAsDigits 6 = .ok (.iload_n 3, 1) := by decide +kernel
theorem dX1_orderAsDigits_7 : decode cX1_orderAsDigits 7 = .ok (.ifCond .lt 21, 3) := by decide +kernel
theorem dX1_orderAsDigits_10 : decode cX1_orderAsDigits 10 = .ok (.bipush 10, 2) := by decide +kernel
theorem dX1_orderAsDigits_12 : decode cX1_orderAsDigits 12 = .ok (.iload_n 2, 1) := by decide +kernel
theorem dX1_orderAsDigits_13 : decode cX1_orderAsDigits 13 = .ok (.imul, 1) := by decide +kernel
theorem dX1_orderAsDigits_14 : decode cX1_orderAsDigits 14 = .ok (.aload_n 0, 1) := by decide +kernel
theorem dX1_orderAsDigits_15 : decode cX1_orderAsDigits 15 = .ok (.getfield 22, 3) := by decide +kernel
theorem dX1_orderAsDigits_18 : decode cX1_orderAsDigits 18 = .ok (.iload_n 3, 1) := by decide +kernel
theorem dX1_orderAsDigits_19 : decode cX1_orderAsDigits 19 = .ok (.iaload, 1) := by decide +kernel
theorem dX1_orderAsDigits_20 : decode cX1_orderAsDigits 20 = .ok (.iadd, 1) := by decide +kernel
theorem dX1_orderAsDigits_21 : decode cX1_orderAsDigits 21 = .ok (.istore_n 2, 1) := by decide +kernel
theorem dX1_orderAsDigits_22 : decode cX1_orderAsDigits 22 = .ok (.iinc 3 (-1), 3) := by decide +kernel
theorem dX1_orderAsDigits_25 : decode cX1_orderAsDigits 25 = .ok (.goto (-19), 3) := by decide +kernel
theorem dX1_orderAsDigits_28 : decode cX1_orderAsDigits 28 = .ok (.iload_n 2, 1) := by decide +kernel
theorem dX1_orderAsDigits_29 : decode cX1_orderAsDigits 29 = .ok (.ireturn, 1) := by decide +kernel
theorem dX1_nextOrder_0 : decode cX1_nextOrder 0 = .ok (.iload_n 1, 1) := by decide +kernel
theorem dX1_nextOrder_1 : decode cX1_nextOrder 1 = .ok (.iconst 2, 1) := by decide +kernel
theorem dX1_nextOrder_2 : decode cX1_nextOrder 2 = .ok (.isub, 1) := by decide +kernel
theorem dX1_nextOrder_3 : decode cX1_nextOrder 3 = .ok (.istore_n 2, 1) := by decide +kernel
theorem dX1_nextOrder_4 : decode cX1_nextOrder 4 = .ok (.iload_n 2, 1) := by decide +kernel
theorem dX1_nextOrder_5 : decode cX1_nextOrder 5 = .ok (.ifCond .lt 26, 3) := by decide +kernel
theorem dX1_nextOrder_8 : decode cX1_nextOrder 8 = .ok (.aload_n 0, 1) := by decide +kernel
theorem dX1_nextOrder_9 : decode cX1_nextOrder 9 = .ok (.getfield 22, 3) := by decide +kernel
theorem dX1_nextOrder_12 : decode cX1_nextOrder 12 = .ok (.iload_n 2, 1) := by decide +kernel
theorem dX1_nextOrder_13 : decode cX1_nextOrder 13 = .ok (.iaload, 1) := by decide +kernel
theorem dX1_nextOrder_14 : decode cX1_nextOrder 14 = .ok (.aload_n 0, 1) := by decide +kernel
theorem dX1_nextOrder_15 : decode cX1_nextOrder 15 = .ok (.getfield 22, 3) := by decide +kernel
theorem dX1_nextOrder_18 : decode cX1_nextOrder 18 = .ok (.iload_n 2, 1) := by decide +kernel
theorem dX1_nextOrder_19 : decode cX1_nextOrder 19 = .ok (.iconst 1, 1) := by decide +kernel
theorem dX1_nextOrder_20 : decode cX1_nextOrder 20 = .ok (.iadd, 1) := by decide +kernel
theorem dX1_nextOrder_21 : decode cX1_nextOrder 21 = .ok (.iaload, 1) := by decide +kernel
theorem dX1_nextOrder_22 : decode cX1_nextOrder 22 = .ok (.if_icmp .le 9, 3) := by decide +kernel
theorem dX1_nextOrder_25 : decode cX1_nextOrder 25 = .ok (.iinc 2 (-1), 3) := by decide +kernel
theorem dX1_nextOrder_28 : decode cX1_nextOrder 28 = .ok (.goto (-24), 3) := by decide +kernel
theorem dX1_nextOrder_31 : decode cX1_nextOrder 31 = .ok (.iload_n 2, 1) := by decide +kernel
theorem dX1_nextOrder_32 : decode cX1_nextOrder 32 = .ok (.ifCond .ge 4, 3) := by decide +kernel
theorem dX1_nextOrder_35 : decode cX1_nextOrder 35 = .ok (.return_, 1) := by decide +kernel
theorem dX1_nextOrder_36 : decode cX1_nextOrder 36 = .ok (.iload_n 1, 1) := by decide +kernel
theorem dX1_nextOrder_37 : decode cX1_nextOrder 37 = .ok (.iconst 1, 1) := by decide +kernel
theorem dX1_nextOrder_38 : decode cX1_nextOrder 38 = .ok (.isub, 1) := by decide +kernel
theorem dX1_nextOrder_39 : decode cX1_nextOrder 39 = .ok (.istore_n 3, 1) := by decide +kernel
theorem dX1_nextOrder_40 : decode cX1_nextOrder 40 = .ok (.iload_n 3, 1) := by decide +kernel
theorem dX1_nextOrder_41 : decode cX1_nextOrder 41 = .ok (.iload_n 2, 1) := by decide +kernel
theorem dX1_nextOrder_42 : decode cX1_nextOrder 42 = .ok (.if_icmp .le 24, 3) := by decide +kernel
theorem dX1_nextOrder_45 : decode cX1_nextOrder 45 = .ok (.aload_n 0, 1) := by decide +kernel
theorem dX1_nextOrder_46 : decode cX1_nextOrder 46 = .ok (.getfield 22, 3) := by decide +kernel
theorem dX1_nextOrder_49 : decode cX1_nextOrder 49 = .ok (.iload_n 3, 1) := by decide +kernel
theorem dX1_nextOrder_50 : decode cX1_nextOrder 50 = .ok (.iaload, 1) := by decide +kernel
theorem dX1_nextOrder_51 : decode cX1_nextOrder 51 = .ok (.aload_n 0, 1) := by decide +kernel
theorem dX1_nextOrder_52 : decode cX1_nextOrder 52 = .ok (.getfield 22, 3) := by decide +kernel
theorem dX1_nextOrder_55 : decode cX1_nextOrder 55 = .ok (.iload_n 2, 1) := by decide +kernel
theorem dX1_nextOrder_56 : decode cX1_nextOrder 56 = .ok (.iaload, 1) := by decide +kernel
theorem dX1_nextOrder_57 : decode cX1_nextOrder 57 = .ok (.if_icmp .ge 9, 3) := by decide +kernel
theorem dX1_nextOrder_60 : decode cX1_nextOrder 60 = .ok (.iinc 3 (-1), 3) := by decide +kernel
theorem dX1_nextOrder_63 : decode cX1_nextOrder 63 = .ok (.goto (-23), 3) := by decide +kernel
theorem dX1_nextOrder_66 : decode cX1_nextOrder 66 = .ok (.aload_n 0, 1) := by decide +kernel
theorem dX1_nextOrder_67 : decode cX1_nextOrder 67 = .ok (.iload_n 2, 1) := by decide +kernel
theorem dX1_nextOrder_68 : decode cX1_nextOrder 68 = .ok (.iload_n 3, 1) := by decide +kernel
theorem dX1_nextOrder_69 : decode cX1_nextOrder 69 = .ok (.invokevirtual 165, 3) := by decide +kernel
theorem dX1_nextOrder_72 : decode cX1_nextOrder 72 = .ok (.iload_n 2, 1) := by decide +kernel
theorem dX1_nextOrder_73 : decode cX1_nextOrder 73 = .ok (.iconst 1, 1) := by decide +kernel
theorem dX1_nextOrder_74 : decode cX1_nextOrder 74 = .ok (.iadd, 1) := by decide +kernel
theorem dX1_nextOrder_75 : decode cX1_nextOrder 75 = .ok (.istore 4, 2) := by decide +kernel
theorem dX1_nextOrder_77 : decode cX1_nextOrder 77 = .ok (.iload_n 1, 1) := by decide +kernel
theorem dX1_nextOrder_78 : decode cX1_nextOrder 78 = .ok (.iconst 1, 1) := by decide +kernel
theorem dX1_nextOrder_79 : decode cX1_nextOrder 79 = .ok (.isub, 1) := by decide +kernel
theorem dX1_nextOrder_80 : decode cX1_nextOrder 80 = .ok (.istore 5, 2) := by decide +kernel
theorem dX1_nextOrder_82 : decode cX1_nextOrder 82 = .ok (.iload 5, 2) := by decide +kernel
theorem dX1_nextOrder_84 : decode cX1_nextOrder 84 = .ok (.iload 4, 2) := by decide +kernel
theorem dX1_nextOrder_86 : decode cX1_nextOrder 86 = .ok (.if_icmp .le 20, 3) := by decide +kernel
theorem dX1_nextOrder_89 : decode cX1_nextOrder 89 = .ok (.aload_n 0, 1) := by decide +kernel
theorem dX1_nextOrder_90 : decode cX1_nextOrder 90 = .ok (.iload 4, 2) := by decide +kernel
theorem dX1_nextOrder_92 : decode cX1_nextOrder 92 = .ok (.iload 5, 2) := by decide +kernel
theorem dX1_nextOrder_94 : decode cX1_nextOrder 94 = .ok (.invokevirtual 165, 3) := by decide +kernel
theorem dX1_nextOrder_97 : decode cX1_nextOrder 97 = .ok (.iinc 4 1, 3) := by decide +kernel
theorem dX1_nextOrder_100 : decode cX1_nextOrder 100 = .ok (.iinc 5 (-1), 3) := by decide +kernel
theorem dX1_nextOrder_103 : decode cX1_nextOrder 103 = .ok (.goto (-21), 3) := by decide +kernel
theorem dX1_nextOrder_106 : decode cX1_nextOrder 106 = .ok (.return_, 1) := by decide +kernel
theorem dX1_exchangePlaces_0 : decode cX1_exchangePlaces 0 = .ok (.aload_n 0, 1) := by decide +kernel
theorem dX1_exchangePlaces_1 : decode cX1_exchangePlaces 1 = .ok (.getfield 22, 3) := by decide +kernel
theorem dX1_exchangePlaces_4 : decode cX1_exchangePlaces 4 = .ok (.iload_n 1, 1) := by decide +kernel
theorem dX1_exchangePlaces_5 : decode cX1_exchangePlaces 5 = .ok (.iaload, 1) := by decide +kernel
theorem dX1_exchangePlaces_6 : decode cX1_exchangePlaces 6 = .ok (.istore_n 3, 1) := by decide +kernel
theorem dX1_exchangePlaces_7 : decode cX1_exchangePlaces 7 = .ok (.aload_n 0, 1) := by decide +kernel
theorem dX1_exchangePlaces_8 : decode cX1_exchangePlaces 8 = .ok (.getfield 22, 3) := by decide +kernel
theorem dX1_exchangePlaces_11 : decode cX1_exchangePlaces 11 = .ok (.iload_n 1, 1) := by decide +kernel
theorem dX1_exchangePlaces_12 : decode cX1_exchangePlaces 12 = .ok (.aload_n 0, 1) := by decide +kernel
theorem dX1_exchangePlaces_13 : decode cX1_exchangePlaces 13 = .ok (.getfield 22, 3) := by decide +kernel
theorem dX1_exchangePlaces_16 : decode cX1_exchangePlaces 16 = .ok (.iload_n 2, 1) := by decide +kernel
theorem dX1_exchangePlaces_17 : decode cX1_exchangePlaces 17 = .ok (.iaload, 1) := by decide +kernel
theorem dX1_exchangePlaces_18 : decode cX1_exchangePlaces 18 = .ok (.iastore, 1) := by decide +kernel
theorem dX1_exchangePlaces_19 : decode cX1_exchangePlaces 19 = .ok (.aload_n 0, 1) := by decide +kernel
theorem dX1_exchangePlaces_20 : decode cX1_exchangePlaces 20 = .ok (.getfield 22, 3) := by decide +kernel
theorem dX1_exchangePlaces_23 : decode cX1_exchangePlaces 23 = .ok (.iload_n 2, 1) := by decide +kernel
theorem dX1_exchangePlaces_24 : decode cX1_exchangePlaces 24 = .ok (.iload_n 3, 1) := by decide +kernel
theorem dX1_exchangePlaces_25 : decode cX1_exchangePlaces 25 = .ok (.iastore, 1) := by decide +kernel
theorem dX1_exchangePlaces_26 : decode cX1_exchangePlaces 26 = .ok (.return_, 1) := by decide +kernel
theorem dX1_drawBelow_0 : decode cX1_drawBelow 0 = .ok (.aload_n 0, 1) := by decide +kernel
theorem dX1_drawBelow_1 : decode cX1_drawBelow 1 = .ok (.aload_n 0, 1) := by decide +kernel
theorem dX1_drawBelow_2 : decode cX1_drawBelow 2 = .ok (.getfield 102, 3) := by decide +kernel
theorem dX1_drawBelow_5 : decode cX1_drawBelow 5 = .ok (.ldc 168, 2) := by decide +kernel
theorem dX1_drawBelow_7 : decode cX1_drawBelow 7 = .ok (.imul, 1) := by decide +kernel
theorem dX1_drawBelow_8 : decode cX1_drawBelow 8 = .ok (.sipush 12345, 3) := by decide +kernel
theorem dX1_drawBelow_11 : decode cX1_drawBelow 11 = .ok (.iadd, 1) := by decide +kernel
theorem dX1_drawBelow_12 : decode cX1_drawBelow 12 = .ok (.putfield 102, 3) := by decide +kernel
theorem dX1_drawBelow_15 : decode cX1_drawBelow 15 = .ok (.iload_n 1, 1) := by decide +kernel
theorem dX1_drawBelow_16 : decode cX1_drawBelow 16 = .ok (.ifCond .le 18, 3) := by decide +kernel
theorem dX1_drawBelow_19 : decode cX1_drawBelow 19 = .ok (.aload_n 0, 1) := by decide +kernel
theorem dX1_drawBelow_20 : decode cX1_drawBelow 20 = .ok (.getfield 102, 3) := by decide +kernel
theorem dX1_drawBelow_23 : decode cX1_drawBelow 23 = .ok (.ldc 169, 2) := by decide +kernel
theorem dX1_drawBelow_25 : decode cX1_drawBelow 25 = .ok (.iand, 1) := by decide +kernel
theorem dX1_drawBelow_26 : decode cX1_drawBelow 26 = .ok (.ldc 170, 2) := by decide +kernel
theorem dX1_drawBelow_28 : decode cX1_drawBelow 28 = .ok (.idiv, 1) := by decide +kernel
theorem dX1_drawBelow_29 : decode cX1_drawBelow 29 = .ok (.iload_n 1, 1) := by decide +kernel
theorem dX1_drawBelow_30 : decode cX1_drawBelow 30 = .ok (.irem, 1) := by decide +kernel
theorem dX1_drawBelow_31 : decode cX1_drawBelow 31 = .ok (.goto 4, 3) := by decide +kernel
theorem dX1_drawBelow_34 : decode cX1_drawBelow 34 = .ok (.iconst 0, 1) := by decide +kernel
theorem dX1_drawBelow_35 : decode cX1_drawBelow 35 = .ok (.ireturn, 1) := by decide +kernel
theorem dX2_init_0 : decode cX2_init 0 = .ok (.aload_n 0, 1) := by decide +kernel
theorem dX2_init_1 : decode cX2_init 1 = .ok (.invokespecial 3, 3) := by decide +kernel
theorem dX2_init_4 : decode cX2_init 4 = .ok (.aload_n 0, 1) := by decide +kernel
theorem dX2_init_5 : decode cX2_init 5 = .ok (.iconst 1, 1) := by decide +kernel
theorem dX2_init_6 : decode cX2_init 6 = .ok (.putfield 9, 3) := by decide +kernel
theorem dX2_init_9 : decode cX2_init 9 = .ok (.aload_n 0, 1) := by decide +kernel
theorem dX2_init_10 : decode cX2_init 10 = .ok (.bipush 12, 2) := by decide +kernel
theorem dX2_init_12 : decode cX2_init 12 = .ok (.putfield 15, 3) := by decide +kernel
theorem dX2_init_15 : decode cX2_init 15 = .ok (.aload_n 0, 1) := by decide +kernel
theorem dX2_init_16 : decode cX2_init 16 = .ok (.bipush 8, 2) := by decide +kernel
theorem dX2_init_18 : decode cX2_init 18 = .ok (.newarray .int, 2) := by decide +kernel
theorem dX2_init_20 : decode cX2_init 20 = .ok (.putfield 18, 3) := by decide +kernel
theorem dX2_init_23 : decode cX2_init 23 = .ok (.aload_n 0, 1) := by decide +kernel
theorem dX2_init_24 : decode cX2_init 24 = .ok (.bipush 8, 2) := by decide +kernel
theorem dX2_init_26 : decode cX2_init 26 = .ok (.newarray .int, 2) := by decide +kernel
theorem dX2_init_28 : decode cX2_init 28 = .ok (.putfield 22, 3) := by decide +kernel
theorem dX2_init_31 : decode cX2_init 31 = .ok (.aload_n 0, 1) := by decide +kernel
theorem dX2_init_32 : decode cX2_init 32 = .ok (.bipush 25, 2) := by decide +kernel
theorem dX2_init_34 : decode cX2_init 34 = .ok (.newarray .int, 2) := by decide +kernel
theorem dX2_init_36 : decode cX2_init 36 = .ok (.putfield 25, 3) := by decide +kernel
theorem dX2_init_39 : decode cX2_init 39 = .ok (.aload_n 0, 1) := by decide +kernel
theorem dX2_init_40 : decode cX2_init 40 = .ok (.bipush 25, 2) := by decide +kernel
theorem dX2_init_42 : decode cX2_init 42 = .ok (.newarray .int, 2) := by decide +kernel
theorem dX2_init_44 : decode cX2_init 44 = .ok (.putfield 28, 3) := by decide +kernel
theorem dX2_init_47 : decode cX2_init 47 = .ok (.return_, 1) := by decide +kernel
theorem dX2_takeFrom_0 : decode cX2_takeFrom 0 = .ok (.aload_n 0, 1) := by decide +kernel
theorem dX2_takeFrom_1 : decode cX2_takeFrom 1 = .ok (.aload_n 1, 1) := by decide +kernel
theorem dX2_takeFrom_2 : decode cX2_takeFrom 2 = .ok (.getfield 31, 3) := by decide +kernel
theorem dX2_takeFrom_5 : decode cX2_takeFrom 5 = .ok (.putfield 31, 3) := by decide +kernel
theorem dX2_takeFrom_8 : decode cX2_takeFrom 8 = .ok (.aload_n 0, 1) := by decide +kernel
theorem dX2_takeFrom_9 : decode cX2_takeFrom 9 = .ok (.aload_n 1, 1) := by decide +kernel
theorem dX2_takeFrom_10 : decode cX2_takeFrom 10 = .ok (.getfield 34, 3) := by decide +kernel
theorem dX2_takeFrom_13 : decode cX2_takeFrom 13 = .ok (.putfield 34, 3) := by decide +kernel
theorem dX2_takeFrom_16 : decode cX2_takeFrom 16 = .ok (.aload_n 0, 1) := by decide +kernel
theorem dX2_takeFrom_17 : decode cX2_takeFrom 17 = .ok (.aload_n 1, 1) := by decide +kernel
theorem dX2_takeFrom_18 : decode cX2_takeFrom 18 = .ok (.getfield 37, 3) := by decide +kernel
theorem dX2_takeFrom_21 : decode cX2_takeFrom 21 = .ok (.putfield 37, 3) := by decide +kernel
theorem dX2_takeFrom_24 : decode cX2_takeFrom 24 = .ok (.aload_n 0, 1) := by decide +kernel
theorem dX2_takeFrom_25 : decode cX2_takeFrom 25 = .ok (.aload_n 1, 1) := by decide +kernel
theorem dX2_takeFrom_26 : decode cX2_takeFrom 26 = .ok (.getfield 9, 3) := by decide +kernel
theorem dX2_takeFrom_29 : decode cX2_takeFrom 29 = .ok (.putfield 9, 3) := by decide +kernel
theorem dX2_takeFrom_32 : decode cX2_takeFrom 32 = .ok (.aload_n 0, 1) := by decide +kernel
theorem dX2_takeFrom_33 : decode cX2_takeFrom 33 = .ok (.aload_n 1, 1) := by decide +kernel
theorem dX2_takeFrom_34 : decode cX2_takeFrom 34 = .ok (.getfield 15, 3) := by decide +kernel
theorem dX2_takeFrom_37 : decode cX2_takeFrom 37 = .ok (.putfield 15, 3) := by decide +kernel
theorem dX2_takeFrom_40 : decode cX2_takeFrom 40 = .ok (.aload_n 0, 1) := by decide +kernel
theorem dX2_takeFrom_41 : decode cX2_takeFrom 41 = .ok (.aload_n 1, 1) := by decide +kernel
theorem dX2_takeFrom_42 : decode cX2_takeFrom 42 = .ok (.getfield 40, 3) := by decide +kernel
theorem dX2_takeFrom_45 : decode cX2_takeFrom 45 = .ok (.putfield 40, 3) := by decide +kernel
theorem dX2_takeFrom_48 : decode cX2_takeFrom 48 = .ok (.aload_n 0, 1) := by decide +kernel
theorem dX2_takeFrom_49 : decode cX2_takeFrom 49 = .ok (.aload_n 1, 1) := by decide +kernel
theorem dX2_takeFrom_50 : decode cX2_takeFrom 50 = .ok (.getfield 43, 3) := by decide +kernel
theorem dX2_takeFrom_53 : decode cX2_takeFrom 53 = .ok (.putfield 43, 3) := by decide +kernel
theorem dX2_takeFrom_56 : decode cX2_takeFrom 56 = .ok (.aload_n 1, 1) := by decide +kernel
theorem dX2_takeFrom_57 : decode cX2_takeFrom 57 = .ok (.getfield 18, 3) := by decide +kernel
theorem dX2_takeFrom_60 : decode cX2_takeFrom 60 = .ok (.iconst 0, 1) := by decide +kernel
theorem dX2_takeFrom_61 : decode cX2_takeFrom 61 = .ok (.aload_n 0, 1) := by decide +kernel
theorem dX2_takeFrom_62 : decode cX2_takeFrom 62 = .ok (.getfield 18, 3) := by decide +kernel
theorem dX2_takeFrom_65 : decode cX2_takeFrom 65 = .ok (.iconst 0, 1) := by decide +kernel
theorem dX2_takeFrom_66 : decode cX2_takeFrom 66 = .ok (.bipush 8, 2) := by decide +kernel
theorem dX2_takeFrom_68 : decode cX2_takeFrom 68 = .ok (.invokestatic 46, 3) := by decide +kernel
theorem dX2_takeFrom_71 : decode cX2_takeFrom 71 = .ok (.aload_n 1, 1) := by decide +kernel
theorem dX2_takeFrom_72 : decode cX2_takeFrom 72 = .ok (.getfield 22, 3) := by decide +kernel
theorem dX2_takeFrom_75 : decode cX2_takeFrom 75 = .ok (.iconst 0, 1) := by decide +kernel
theorem dX2_takeFrom_76 : decode cX2_takeFrom 76 = .ok (.aload_n 0, 1) := by decide +kernel
theorem dX2_takeFrom_77 : decode cX2_takeFrom 77 = .ok (.getfield 22, 3) := by decide +kernel
theorem dX2_takeFrom_80 : decode cX2_takeFrom 80 = .ok (.iconst 0, 1) := by decide +kernel
theorem dX2_takeFrom_81 : decode cX2_takeFrom 81 = .ok (.bipush 8, 2) := by decide +kernel
theorem dX2_takeFrom_83 : decode cX2_takeFrom 83 = .ok (.invokestatic 46, 3) := by decide +kernel
theorem dX2_takeFrom_86 : decode cX2_takeFrom 86 = .ok (.aload_n 1, 1) := by decide +kernel
theorem dX2_takeFrom_87 : decode cX2_takeFrom 87 = .ok (.getfield 25, 3) := by decide +kernel
theorem dX2_takeFrom_90 : decode cX2_takeFrom 90 = .ok (.iconst 0, 1) := by decide +kernel
theorem dX2_takeFrom_91 : decode cX2_takeFrom 91 = .ok (.aload_n 0, 1) := by decide +kernel
theorem dX2_takeFrom_92 : decode cX2_takeFrom 92 = .ok (.getfield 25, 3) := by decide +kernel
theorem dX2_takeFrom_95 : decode cX2_takeFrom 95 = .ok (.iconst 0, 1) := by decide +kernel
theorem dX2_takeFrom_96 : decode cX2_takeFrom 96 = .ok (.bipush 25, 2) := by decide +kernel
theorem dX2_takeFrom_98 : decode cX2_takeFrom 98 = .ok (.invokestatic 46, 3) := by decide +kernel
theorem dX2_takeFrom_101 : decode cX2_takeFrom 101 = .ok (.aload_n 1, 1) := by decide +kernel
theorem dX2_takeFrom_102 : decode cX2_takeFrom 102 = .ok (.getfield 28, 3) := by decide +kernel
theorem dX2_takeFrom_105 : decode cX2_takeFrom 105 = .ok (.iconst 0, 1) := by decide +kernel
theorem dX2_takeFrom_106 : decode cX2_takeFrom 106 = .ok (.aload_n 0, 1) := by decide +kernel
theorem dX2_takeFrom_107 : decode cX2_takeFrom 107 = .ok (.getfield 28, 3) := by decide +kernel
theorem dX2_takeFrom_110 : decode cX2_takeFrom 110 = .ok (.iconst 0, 1) := by decide +kernel
theorem dX2_takeFrom_111 : decode cX2_takeFrom 111 = .ok (.bipush 25, 2) := by decide +kernel
theorem dX2_takeFrom_113 : decode cX2_takeFrom 113 = .ok (.invokestatic 46, 3) := by decide +kernel
theorem dX2_takeFrom_116 : decode cX2_takeFrom 116 = .ok (.return_, 1) := by decide +kernel
theorem dX2_append_0 : decode cX2_append 0 = .ok (.aload_n 0, 1) := by decide +kernel
theorem dX2_append_1 : decode cX2_append 1 = .ok (.getfield 31, 3) := by decide +kernel
theorem dX2_append_4 : decode cX2_append 4 = .ok (.bipush 8, 2) := by decide +kernel
theorem dX2_append_6 : decode cX2_append 6 = .ok (.if_icmp .ge 44, 3) := by decide +kernel
theorem dX2_append_9 : decode cX2_append 9 = .ok (.aload_n 0, 1) := by decide +kernel
theorem dX2_append_10 : decode cX2_append 10 = .ok (.getfield 18, 3) := by decide +kernel
theorem dX2_append_13 : decode cX2_append 13 = .ok (.aload_n 0, 1) := by decide +kernel
theorem dX2_append_14 : decode cX2_append 14 = .ok (.getfield 31, 3) := by decide +kernel
theorem dX2_append_17 : decode cX2_append 17 = .ok (.iload_n 1, 1) := by decide +kernel
theorem dX2_append_18 : decode cX2_append 18 = .ok (.iastore, 1) := by decide +kernel
theorem dX2_append_19 : decode cX2_append 19 = .ok (.aload_n 0, 1) := by decide +kernel
theorem dX2_append_20 : decode cX2_append 20 = .ok (.getfield 22, 3) := by decide +kernel
theorem dX2_append_23 : decode cX2_append 23 = .ok (.aload_n 0, 1) := by decide +kernel
theorem dX2_append_24 : decode cX2_append 24 = .ok (.getfield 31, 3) := by decide +kernel
theorem dX2_append_27 : decode cX2_append 27 = .ok (.iload_n 2, 1) := by decide +kernel
theorem dX2_append_28 : decode cX2_append 28 = .ok (.iastore, 1) := by decide +kernel
theorem dX2_append_29 : decode cX2_append 29 = .ok (.aload_n 0, 1) := by decide +kernel
theorem dX2_append_30 : decode cX2_append 30 = .ok (.dup, 1) := by decide +kernel
theorem dX2_append_31 : decode cX2_append 31 = .ok (.getfield 31, 3) := by decide +kernel
theorem dX2_append_34 : decode cX2_append 34 = .ok (.iconst 1, 1) := by decide +kernel
theorem dX2_append_35 : decode cX2_append 35 = .ok (.iadd, 1) := by decide +kernel
theorem dX2_append_36 : decode cX2_append 36 = .ok (.putfield 31, 3) := by decide +kernel
theorem dX2_append_39 : decode cX2_append 39 = .ok (.aload_n 0, 1) := by decide +kernel
theorem dX2_append_40 : decode cX2_append 40 = .ok (.aload_n 0, 1) := by decide +kernel
theorem dX2_append_41 : decode cX2_append 41 = .ok (.getfield 31, 3) := by decide +kernel
theorem dX2_append_44 : decode cX2_append 44 = .ok (.iconst 1, 1) := by decide +kernel
theorem dX2_append_45 : decode cX2_append 45 = .ok (.isub, 1) := by decide +kernel
theorem dX2_append_46 : decode cX2_append 46 = .ok (.iload_n 3, 1) := by decide +kernel
theorem dX2_append_47 : decode cX2_append 47 = .ok (.invokevirtual 52, 3) := by decide +kernel
theorem dX2_append_50 : decode cX2_append 50 = .ok (.return_, 1) := by decide +kernel
theorem dX2_hasOne_0 : decode cX2_hasOne 0 = .ok (.iload_n 1, 1) := by decide +kernel
theorem dX2_hasOne_1 : decode cX2_hasOne 1 = .ok (.ifCond .lt 15, 3) := by decide +kernel
theorem dX2_hasOne_4 : decode cX2_hasOne 4 = .ok (.iload_n 1, 1) := by decide +kernel
theorem dX2_hasOne_5 : decode cX2_hasOne 5 = .ok (.aload_n 0, 1) := by decide +kernel
theorem dX2_hasOne_6 : decode cX2_hasOne 6 = .ok (.getfield 31, 3) := by decide +kernel
theorem dX2_hasOne_9 : decode cX2_hasOne 9 = .ok (.if_icmp .ge 7, 3) := by decide +kernel
theorem dX2_hasOne_12 : decode cX2_hasOne 12 = .ok (.iconst 1, 1) := by decide +kernel
theorem dX2_hasOne_13 : decode cX2_hasOne 13 = .ok (.goto 4, 3) := by decide +kernel
theorem dX2_hasOne_16 : decode cX2_hasOne 16 = .ok (.iconst 0, 1) := by decide +kernel
theorem dX2_hasOne_17 : decode cX2_hasOne 17 = .ok (.ireturn, 1) := by decide +kernel
theorem dX2_isLit_0 : decode cX2_isLit 0 = .ok (.aload_n 0, 1) := by decide +kernel
theorem dX2_isLit_1 : decode cX2_isLit 1 = .ok (.getfield 34, 3) := by decide +kernel
theorem dX2_isLit_4 : decode cX2_isLit 4 = .ok (.iload_n 1, 1) := by decide +kernel
theorem dX2_isLit_5 : decode cX2_isLit 5 = .ok (.invokestatic 56, 3) := by decide +kernel
theorem dX2_isLit_8 : decode cX2_isLit 8 = .ok (.ireturn, 1) := by decide +kernel
theorem dX2_putLit_0 : decode cX2_putLit 0 = .ok (.aload_n 0, 1) := by decide +kernel
theorem dX2_putLit_1 : decode cX2_putLit 1 = .ok (.iload_n 2, 1) := by decide +kernel
theorem dX2_putLit_2 : decode cX2_putLit 2 = .ok (.ifCond .eq 14, 3) := by decide +kernel
theorem dX2_putLit_5 : decode cX2_putLit 5 = .ok (.aload_n 0, 1) := by decide +kernel
theorem dX2_putLit_6 : decode cX2_putLit 6 = .ok (.getfield 34, 3) := by decide +kernel
theorem dX2_putLit_9 : decode cX2_putLit 9 = .ok (.iconst 1, 1) := by decide +kernel
theorem dX2_putLit_10 : decode cX2_putLit 10 = .ok (.iload_n 1, 1) := by decide +kernel
theorem dX2_putLit_11 : decode cX2_putLit 11 = .ok (.ishl, 1) := by decide +kernel
theorem dX2_putLit_12 : decode cX2_putLit 12 = .ok (.ior, 1) := by decide +kernel
theorem dX2_putLit_13 : decode cX2_putLit 13 = .ok (.goto 13, 3) := by decide +kernel
theorem dX2_putLit_16 : decode cX2_putLit 16 = .ok (.aload_n 0, 1) := by decide +kernel
theorem dX2_putLit_17 : decode cX2_putLit 17 = .ok (.getfield 34, 3) := by decide +kernel
theorem dX2_putLit_20 : decode cX2_putLit 20 = .ok (.iconst 1, 1) := by decide +kernel
theorem dX2_putLit_21 : decode cX2_putLit 21 = .ok (.iload_n 1, 1) := by decide +kernel
theorem dX2_putLit_22 : decode cX2_putLit 22 = .ok (.ishl, 1) := by decide +kernel
theorem dX2_putLit_23 : decode cX2_putLit 23 = .ok (.iconst (-1), 1) := by decide +kernel
theorem dX2_putLit_24 : decode cX2_putLit 24 = .ok (.ixor, 1) := by decide +kernel
theorem dX2_putLit_25 : decode cX2_putLit 25 = .ok (.iand, 1) := by decide +kernel
theorem dX2_putLit_26 : decode cX2_putLit 26 = .ok (.putfield 34, 3) := by decide +kernel
theorem dX2_putLit_29 : decode cX2_putLit 29 = .ok (.return_, 1) := by decide +kernel
theorem dX2_isSmall_0 : decode cX2_isSmall 0 = .ok (.aload_n 0, 1) := by decide +kernel
theorem dX2_isSmall_1 : decode cX2_isSmall 1 = .ok (.getfield 18, 3) := by decide +kernel
theorem dX2_isSmall_4 : decode cX2_isSmall 4 = .ok (.iload_n 1, 1) := by decide +kernel
theorem dX2_isSmall_5 : decode cX2_isSmall 5 = .ok (.iaload, 1) := by decide +kernel
theorem dX2_isSmall_6 : decode cX2_isSmall 6 = .ok (.bipush 6, 2) := by decide +kernel
theorem dX2_isSmall_8 : decode cX2_isSmall 8 = .ok (.if_icmp .ne 7, 3) := by decide +kernel
theorem dX2_isSmall_11 : decode cX2_isSmall 11 = .ok (.iconst 1, 1) := by decide +kernel
theorem dX2_isSmall_12 : decode cX2_isSmall 12 = .ok (.goto 4, 3) := by decide +kernel
theorem dX2_isSmall_15 : decode cX2_isSmall 15 = .ok (.iconst 0, 1) := by decide +kernel
theorem dX2_isSmall_16 : decode cX2_isSmall 16 = .ok (.ireturn, 1) := by decide +kernel
theorem dX2_become_0 : decode cX2_become 0 = .ok (.aload_n 0, 1) := by decide +kernel
theorem dX2_become_1 : decode cX2_become 1 = .ok (.getfield 18, 3) := by decide +kernel
theorem dX2_become_4 : decode cX2_become 4 = .ok (.iload_n 1, 1) := by decide +kernel
theorem dX2_become_5 : decode cX2_become 5 = .ok (.iload_n 2, 1) := by decide +kernel
theorem dX2_become_6 : decode cX2_become 6 = .ok (.iastore, 1) := by decide +kernel
theorem dX2_become_7 : decode cX2_become 7 = .ok (.iload_n 2, 1) := by decide +kernel
theorem dX2_become_8 : decode cX2_become 8 = .ok (.bipush 6, 2) := by decide +kernel
theorem dX2_become_10 : decode cX2_become 10 = .ok (.if_icmp .ne 9, 3) := by decide +kernel
theorem dX2_become_13 : decode cX2_become 13 = .ok (.aload_n 0, 1) := by decide +kernel
theorem dX2_become_14 : decode cX2_become 14 = .ok (.iload_n 1, 1) := by decide +kernel
theorem dX2_become_15 : decode cX2_become 15 = .ok (.iconst 0, 1) := by decide +kernel
theorem dX2_become_16 : decode cX2_become 16 = .ok (.invokevirtual 52, 3) := by decide +kernel
theorem dX2_become_19 : decode cX2_become 19 = .ok (.return_, 1) := by decide +kernel
theorem dX2_becomeLantern_0 : decode cX2_becomeLantern 0 = .ok (.aload_n 0, 1) := by decide +kernel
theorem dX2_becomeLantern_1 : decode cX2_becomeLantern 1 = .ok (.getfield 18, 3) := by decide +kernel
theorem dX2_becomeLantern_4 : decode cX2_becomeLantern 4 = .ok (.iload_n 1, 1) := by decide +kernel
theorem dX2_becomeLantern_5 : decode cX2_becomeLantern 5 = .ok (.iconst 3, 1) := by decide +kernel
theorem dX2_becomeLantern_6 : decode cX2_becomeLantern 6 = .ok (.iastore, 1) := by decide +kernel
theorem dX2_becomeLantern_7 : decode cX2_becomeLantern 7 = .ok (.aload_n 0, 1) := by decide +kernel
theorem dX2_becomeLantern_8 : decode cX2_becomeLantern 8 = .ok (.iload_n 1, 1) := by decide +kernel
theorem dX2_becomeLantern_9 : decode cX2_becomeLantern 9 = .ok (.iconst 1, 1) := by decide +kernel
theorem dX2_becomeLantern_10 : decode cX2_becomeLantern 10 = .ok (.invokevirtual 52, 3) := by decide +kernel
theorem dX2_becomeLantern_13 : decode cX2_becomeLantern 13 = .ok (.return_, 1) := by decide +kernel
theorem dX2_copyOne_0 : decode cX2_copyOne 0 = .ok (.aload_n 0, 1) := by decide +kernel
theorem dX2_copyOne_1 : decode cX2_copyOne 1 = .ok (.iload_n 1, 1) := by decide +kernel
theorem dX2_copyOne_2 : decode cX2_copyOne 2 = .ok (.invokevirtual 60, 3) := by decide +kernel
theorem dX2_copyOne_5 : decode cX2_copyOne 5 = .ok (.ifCond .eq 45, 3) := by decide +kernel
theorem dX2_copyOne_8 : decode cX2_copyOne 8 = .ok (.aload_n 2, 1) := by decide +kernel
theorem dX2_copyOne_9 : decode cX2_copyOne 9 = .ok (.iload_n 3, 1) := by decide +kernel
theorem dX2_copyOne_10 : decode cX2_copyOne 10 = .ok (.invokevirtual 60, 3) := by decide +kernel
theorem dX2_copyOne_13 : decode cX2_copyOne 13 = .ok (.ifCond .eq 37, 3) := by decide +kernel
theorem dX2_copyOne_16 : decode cX2_copyOne 16 = .ok (.aload_n 0, 1) := by decide +kernel
theorem dX2_copyOne_17 : decode cX2_copyOne 17 = .ok (.getfield 18, 3) := by decide +kernel
theorem dX2_copyOne_20 : decode cX2_copyOne 20 = .ok (.iload_n 1, 1) := by decide +kernel
theorem dX2_copyOne_21 : decode cX2_copyOne 21 = .ok (.aload_n 2, 1) := by decide +kernel
theorem dX2_copyOne_22 : decode cX2_copyOne 22 = .ok (.getfield 18, 3) := by decide +kernel
theorem dX2_copyOne_25 : decode cX2_copyOne 25 = .ok (.iload_n 3, 1) := by decide +kernel
theorem dX2_copyOne_26 : decode cX2_copyOne 26 = .ok (.iaload, 1) := by decide +kernel
theorem dX2_copyOne_27 : decode cX2_copyOne 27 = .ok (.iastore, 1) := by decide +kernel
theorem dX2_copyOne_28 : decode cX2_copyOne 28 = .ok (.aload_n 0, 1) := by decide +kernel
theorem dX2_copyOne_29 : decode cX2_copyOne 29 = .ok (.getfield 22, 3) := by decide +kernel
theorem dX2_copyOne_32 : decode cX2_copyOne 32 = .ok (.iload_n 1, 1) := by decide +kernel
theorem dX2_copyOne_33 : decode cX2_copyOne 33 = .ok (.aload_n 2, 1) := by decide +kernel
theorem dX2_copyOne_34 : decode cX2_copyOne 34 = .ok (.getfield 22, 3) := by decide +kernel
theorem dX2_copyOne_37 : decode cX2_copyOne 37 = .ok (.iload_n 3, 1) := by decide +kernel
theorem dX2_copyOne_38 : decode cX2_copyOne 38 = .ok (.iaload, 1) := by decide +kernel
theorem dX2_copyOne_39 : decode cX2_copyOne 39 = .ok (.iastore, 1) := by decide +kernel
theorem dX2_copyOne_40 : decode cX2_copyOne 40 = .ok (.aload_n 0, 1) := by decide +kernel
theorem dX2_copyOne_41 : decode cX2_copyOne 41 = .ok (.iload_n 1, 1) := by decide +kernel
theorem dX2_copyOne_42 : decode cX2_copyOne 42 = .ok (.aload_n 2, 1) := by decide +kernel
theorem dX2_copyOne_43 : decode cX2_copyOne 43 = .ok (.iload_n 3, 1) := by decide +kernel
theorem dX2_copyOne_44 : decode cX2_copyOne 44 = .ok (.invokevirtual 64, 3) := by decide +kernel
theorem dX2_copyOne_47 : decode cX2_copyOne 47 = .ok (.invokevirtual 52, 3) := by decide +kernel
theorem dX2_copyOne_50 : decode cX2_copyOne 50 = .ok (.return_, 1) := by decide +kernel
theorem dX2_isAtDoor_0 : decode cX2_isAtDoor 0 = .ok (.aload_n 0, 1) := by decide +kernel
theorem dX2_isAtDoor_1 : decode cX2_isAtDoor 1 = .ok (.getfield 40, 3) := by decide +kernel
theorem dX2_isAtDoor_4 : decode cX2_isAtDoor 4 = .ok (.aload_n 0, 1) := by decide +kernel
theorem dX2_isAtDoor_5 : decode cX2_isAtDoor 5 = .ok (.getfield 15, 3) := by decide +kernel
theorem dX2_isAtDoor_8 : decode cX2_isAtDoor 8 = .ok (.if_icmp .lt 7, 3) := by decide +kernel
theorem dX2_isAtDoor_11 : decode cX2_isAtDoor 11 = .ok (.iconst 1, 1) := by decide +kernel
theorem dX2_isAtDoor_12 : decode cX2_isAtDoor 12 = .ok (.goto 4, 3) := by decide +kernel
theorem dX2_isAtDoor_15 : decode cX2_isAtDoor 15 = .ok (.iconst 0, 1) := by decide +kernel
theorem dX2_isAtDoor_16 : decode cX2_isAtDoor 16 = .ok (.ireturn, 1) := by decide +kernel
theorem dX2_everybody_0 : decode cX2_everybody 0 = .ok (.iconst 1, 1) := by decide +kernel
theorem dX2_everybody_1 : decode cX2_everybody 1 = .ok (.aload_n 0, 1) := by decide +kernel
theorem dX2_everybody_2 : decode cX2_everybody 2 = .ok (.getfield 31, 3) := by decide +kernel
theorem dX2_everybody_5 : decode cX2_everybody 5 = .ok (.ishl, 1) := by decide +kernel
theorem dX2_everybody_6 : decode cX2_everybody 6 = .ok (.iconst 1, 1) := by decide +kernel
theorem dX2_everybody_7 : decode cX2_everybody 7 = .ok (.isub, 1) := by decide +kernel
theorem dX2_everybody_8 : decode cX2_everybody 8 = .ok (.ireturn, 1) := by decide +kernel
theorem dX2_grownOnes_0 : decode cX2_grownOnes 0 = .ok (.iconst 0, 1) := by decide +kernel
theorem dX2_grownOnes_1 : decode cX2_grownOnes 1 = .ok (.istore_n 1, 1) := by decide +kernel
theorem dX2_grownOnes_2 : decode cX2_grownOnes 2 = .ok (.iconst 0, 1) := by decide +kernel
theorem dX2_grownOnes_3 : decode cX2_grownOnes 3 = .ok (.istore_n 2, 1) := by decide +kernel
theorem dX2_grownOnes_4 : decode cX2_grownOnes 4 = .ok (.iload_n 2, 1) := by decide +kernel
theorem dX2_grownOnes_5 : decode cX2_grownOnes 5 = .ok (.aload_n 0, 1) := by decide +kernel
theorem dX2_grownOnes_6 : decode cX2_grownOnes 6 = .ok (.getfield 31, 3) := by decide +kernel
theorem dX2_grownOnes_9 : decode cX2_grownOnes 9 = .ok (.if_icmp .ge 23, 3) := by decide +kernel
theorem dX2_grownOnes_12 : decode cX2_grownOnes 12 = .ok (.aload_n 0, 1) := by decide +kernel
theorem dX2_grownOnes_13 : decode cX2_grownOnes 13 = .ok (.iload_n 2, 1) := by decide +kernel
theorem dX2_grownOnes_14 : decode cX2_grownOnes 14 = .ok (.invokevirtual 67, 3) := by decide +kernel
theorem dX2_grownOnes_17 : decode cX2_grownOnes 17 = .ok (.ifCond .ne 9, 3) := by decide +kernel
theorem dX2_grownOnes_20 : decode cX2_grownOnes 20 = .ok (.iload_n 1, 1) := by decide +kernel
theorem dX2_grownOnes_21 : decode cX2_grownOnes 21 = .ok (.iconst 1, 1) := by decide +kernel
theorem dX2_grownOnes_22 : decode cX2_grownOnes 22 = .ok (.iload_n 2, 1) := by decide +kernel
theorem dX2_grownOnes_23 : decode cX2_grownOnes 23 = .ok (.ishl, 1) := by decide +kernel
theorem dX2_grownOnes_24 : decode cX2_grownOnes 24 = .ok (.ior, 1) := by decide +kernel
theorem dX2_grownOnes_25 : decode cX2_grownOnes 25 = .ok (.istore_n 1, 1) := by decide +kernel
theorem dX2_grownOnes_26 : decode cX2_grownOnes 26 = .ok (.iinc 2 1, 3) := by decide +kernel
theorem dX2_grownOnes_29 : decode cX2_grownOnes 29 = .ok (.goto (-25), 3) := by decide +kernel
theorem dX2_grownOnes_32 : decode cX2_grownOnes 32 = .ok (.iload_n 1, 1) := by decide +kernel
theorem dX2_grownOnes_33 : decode cX2_grownOnes 33 = .ok (.ireturn, 1) := by decide +kernel
theorem dX2_holdsOf_0 : decode cX2_holdsOf 0 = .ok (.aload_n 0, 1) := by decide +kernel
theorem dX2_holdsOf_1 : decode cX2_holdsOf 1 = .ok (.getfield 22, 3) := by decide +kernel
theorem dX2_holdsOf_4 : decode cX2_holdsOf 4 = .ok (.iload_n 1, 1) := by decide +kernel
theorem dX2_holdsOf_5 : decode cX2_holdsOf 5 = .ok (.iaload, 1) := by decide +kernel
theorem dX2_holdsOf_6 : decode cX2_holdsOf 6 = .ok (.iconst 3, 1) := by decide +kernel
theorem dX2_holdsOf_7 : decode cX2_holdsOf 7 = .ok (.idiv, 1) := by decide +kernel
theorem dX2_holdsOf_8 : decode cX2_holdsOf 8 = .ok (.istore_n 2, 1) := by decide +kernel
theorem dX2_holdsOf_9 : decode cX2_holdsOf 9 = .ok (.aload_n 0, 1) := by decide +kernel
theorem dX2_holdsOf_10 : decode cX2_holdsOf 10 = .ok (.getfield 18, 3) := by decide +kernel
theorem dX2_holdsOf_13 : decode cX2_holdsOf 13 = .ok (.iload_n 1, 1) := by decide +kernel
theorem dX2_holdsOf_14 : decode cX2_holdsOf 14 = .ok (.iaload, 1) := by decide +kernel
theorem dX2_holdsOf_15 : decode cX2_holdsOf 15 = .ok (.tableswitch 65 0 5 #[37, 41, 65, 45, 48, 52], 37) := by decide +kernel
theorem dX2_holdsOf_52 : decode cX2_holdsOf 52 = .ok (.iconst 3, 1) := by decide +kernel
theorem dX2_holdsOf_53 : decode cX2_holdsOf 53 = .ok (.iload_n 2, 1) := by decide +kernel
theorem dX2_holdsOf_54 : decode cX2_holdsOf 54 = .ok (.iadd, 1) := by decide +kernel
theorem dX2_holdsOf_55 : decode cX2_holdsOf 55 = .ok (.ireturn, 1) := by decide +kernel
theorem dX2_holdsOf_56 : decode cX2_holdsOf 56 = .ok (.iconst 5, 1) := by decide +kernel
theorem dX2_holdsOf_57 : decode cX2_holdsOf 57 = .ok (.iload_n 2, 1) := by decide +kernel
theorem dX2_holdsOf_58 : decode cX2_holdsOf 58 = .ok (.iadd, 1) := by decide +kernel
theorem dX2_holdsOf_59 : decode cX2_holdsOf 59 = .ok (.ireturn, 1) := by decide +kernel
theorem dX2_holdsOf_60 : decode cX2_holdsOf 60 = .ok (.bipush 99, 2) := by decide +kernel
theorem dX2_holdsOf_62 : decode cX2_holdsOf 62 = .ok (.ireturn, 1) := by decide +kernel
theorem dX2_holdsOf_63 : decode cX2_holdsOf 63 = .ok (.iconst 2, 1) := by decide +kernel
theorem dX2_holdsOf_64 : decode cX2_holdsOf 64 = .ok (.iload_n 2, 1) := by decide +kernel
theorem dX2_holdsOf_65 : decode cX2_holdsOf 65 = .ok (.iadd, 1) := by decide +kernel
theorem dX2_holdsOf_66 : decode cX2_holdsOf 66 = .ok (.ireturn, 1) := by decide +kernel
theorem dX2_holdsOf_67 : decode cX2_holdsOf 67 = .ok (.iconst 4, 1) := by decide +kernel
theorem dX2_holdsOf_68 : decode cX2_holdsOf 68 = .ok (.iload_n 2, 1) := by decide +kernel
theorem dX2_holdsOf_69 : decode cX2_holdsOf 69 = .ok (.iadd, 1) := by decide +kernel
theorem dX2_holdsOf_70 : decode cX2_holdsOf 70 = .ok (.aload_n 0, 1) := by decide +kernel
theorem dX2_holdsOf_71 : decode cX2_holdsOf 71 = .ok (.getfield 22, 3) := by decide +kernel
theorem dX2_holdsOf_74 : decode cX2_holdsOf 74 = .ok (.iload_n 1, 1) := by decide +kernel
theorem dX2_holdsOf_75 : decode cX2_holdsOf 75 = .ok (.iaload, 1) := by decide +kernel
theorem dX2_holdsOf_76 : decode cX2_holdsOf 76 = .ok (.iconst 2, 1) := by decide +kernel
theorem dX2_holdsOf_77 : decode cX2_holdsOf 77 = .ok (.idiv, 1) := by decide +kernel
theorem dX2_holdsOf_78 : decode cX2_holdsOf 78 = .ok (.iadd, 1) := by decide +kernel
theorem dX2_holdsOf_79 : decode cX2_holdsOf 79 = .ok (.ireturn, 1) := by decide +kernel
theorem dX2_holdsOf_80 : decode cX2_holdsOf 80 = .ok (.iconst 4, 1) := by decide +kernel
theorem dX2_holdsOf_81 : decode cX2_holdsOf 81 = .ok (.iload_n 2, 1) := by decide +kernel
theorem dX2_holdsOf_82 : decode cX2_holdsOf 82 = .ok (.iadd, 1) := by decide +kernel
theorem dX2_holdsOf_83 : decode cX2_holdsOf 83 = .ok (.ireturn, 1) := by decide +kernel
theorem dX2_coverer_0 : decode cX2_coverer 0 = .ok (.iload_n 2, 1) := by decide +kernel
theorem dX2_coverer_1 : decode cX2_coverer 1 = .ok (.iconst 2, 1) := by decide +kernel
theorem dX2_coverer_2 : decode cX2_coverer 2 = .ok (.if_icmp .ne 6, 3) := by decide +kernel
theorem dX2_coverer_5 : decode cX2_coverer 5 = .ok (.bipush (-9), 2) := by decide +kernel
theorem dX2_coverer_7 : decode cX2_coverer 7 = .ok (.ireturn, 1) := by decide +kernel
theorem dX2_coverer_8 : decode cX2_coverer 8 = .ok (.aload_n 0, 1) := by decide +kernel
theorem dX2_coverer_9 : decode cX2_coverer 9 = .ok (.getfield 37, 3) := by decide +kernel
theorem dX2_coverer_12 : decode cX2_coverer 12 = .ok (.iconst 2, 1) := by decide +kernel
theorem dX2_coverer_13 : decode cX2_coverer 13 = .ok (.if_icmp .ne 7, 3) := by decide +kernel
theorem dX2_coverer_16 : decode cX2_coverer 16 = .ok (.iconst 2, 1) := by decide +kernel
theorem dX2_coverer_17 : decode cX2_coverer 17 = .ok (.goto 4, 3) := by decide +kernel
theorem dX2_coverer_20 : decode cX2_coverer 20 = .ok (.iconst 1, 1) := by decide +kernel
theorem dX2_coverer_21 : decode cX2_coverer 21 = .ok (.istore_n 3, 1) := by decide +kernel
theorem dX2_coverer_22 : decode cX2_coverer 22 = .ok (.iload_n 2, 1) := by decide +kernel
theorem dX2_coverer_23 : decode cX2_coverer 23 = .ok (.ifCond .ne 9, 3) := by decide +kernel
theorem dX2_coverer_26 : decode cX2_coverer 26 = .ok (.iload_n 1, 1) := by decide +kernel
theorem dX2_coverer_27 : decode cX2_coverer 27 = .ok (.iload_n 3, 1) := by decide +kernel
theorem dX2_coverer_28 : decode cX2_coverer 28 = .ok (.isub, 1) := by decide +kernel
theorem dX2_coverer_29 : decode cX2_coverer 29 = .ok (.goto 6, 3) := by decide +kernel
theorem dX2_coverer_32 : decode cX2_coverer 32 = .ok (.iload_n 1, 1) := by decide +kernel
theorem dX2_coverer_33 : decode cX2_coverer 33 = .ok (.iload_n 3, 1) := by decide +kernel
theorem dX2_coverer_34 : decode cX2_coverer 34 = .ok (.iadd, 1) := by decide +kernel
theorem dX2_coverer_35 : decode cX2_coverer 35 = .ok (.istore 4, 2) := by decide +kernel
theorem dX2_coverer_37 : decode cX2_coverer 37 = .ok (.aload_n 0, 1) := by decide +kernel
theorem dX2_coverer_38 : decode cX2_coverer 38 = .ok (.getfield 37, 3) := by decide +kernel
theorem dX2_coverer_41 : decode cX2_coverer 41 = .ok (.iconst 1, 1) := by decide +kernel
theorem dX2_coverer_42 : decode cX2_coverer 42 = .ok (.if_icmp .ne 24, 3) := by decide +kernel
theorem dX2_coverer_45 : decode cX2_coverer 45 = .ok (.aload_n 0, 1) := by decide +kernel
theorem dX2_coverer_46 : decode cX2_coverer 46 = .ok (.getfield 31, 3) := by decide +kernel
theorem dX2_coverer_49 : decode cX2_coverer 49 = .ok (.iconst 1, 1) := by decide +kernel
theorem dX2_coverer_50 : decode cX2_coverer 50 = .ok (.if_icmp .le 16, 3) := by decide +kernel
theorem dX2_coverer_53 : decode cX2_coverer 53 = .ok (.iload 4, 2) := by decide +kernel
theorem dX2_coverer_55 : decode cX2_coverer 55 = .ok (.aload_n 0, 1) := by decide +kernel
theorem dX2_coverer_56 : decode cX2_coverer 56 = .ok (.getfield 31, 3) := by decide +kernel
theorem dX2_coverer_59 : decode cX2_coverer 59 = .ok (.iadd, 1) := by decide +kernel
theorem dX2_coverer_60 : decode cX2_coverer 60 = .ok (.aload_n 0, 1) := by decide +kernel
theorem dX2_coverer_61 : decode cX2_coverer 61 = .ok (.getfield 31, 3) := by decide +kernel
theorem dX2_coverer_64 : decode cX2_coverer 64 = .ok (.irem, 1) := by decide +kernel
theorem dX2_coverer_65 : decode cX2_coverer 65 = .ok (.ireturn, 1) := by decide +kernel
theorem dX2_coverer_66 : decode cX2_coverer 66 = .ok (.iload 4, 2) := by decide +kernel
theorem dX2_coverer_68 : decode cX2_coverer 68 = .ok (.ifCond .lt 17, 3) := by decide +kernel
theorem dX2_coverer_71 : decode cX2_coverer 71 = .ok (.iload 4, 2) := by decide +kernel
theorem dX2_coverer_73 : decode cX2_coverer 73 = .ok (.aload_n 0, 1) := by decide +kernel
theorem dX2_coverer_74 : decode cX2_coverer 74 = .ok (.getfield 31, 3) := by decide +kernel
theorem dX2_coverer_77 : decode cX2_coverer 77 = .ok (.if_icmp .ge 8, 3) := by decide +kernel
theorem dX2_coverer_80 : decode cX2_coverer 80 = .ok (.iload 4, 2) := by decide +kernel
theorem dX2_coverer_82 : decode cX2_coverer 82 = .ok (.goto 5, 3) := by decide +kernel
theorem dX2_coverer_85 : decode cX2_coverer 85 = .ok (.bipush (-9), 2) := by decide +kernel
theorem dX2_coverer_87 : decode cX2_coverer 87 = .ok (.ireturn, 1) := by decide +kernel
theorem dX2_coverFor_0 : decode cX2_coverFor 0 = .ok (.aload_n 0, 1) := by decide +kernel
theorem dX2_coverFor_1 : decode cX2_coverFor 1 = .ok (.iload_n 1, 1) := by decide +kernel
theorem dX2_coverFor_2 : decode cX2_coverFor 2 = .ok (.iload_n 2, 1) := by decide +kernel
theorem dX2_coverFor_3 : decode cX2_coverFor 3 = .ok (.invokevirtual 70, 3) := by decide +kernel
theorem dX2_coverFor_6 : decode cX2_coverFor 6 = .ok (.istore_n 3, 1) := by decide +kernel
theorem dX2_coverFor_7 : decode cX2_coverFor 7 = .ok (.iload_n 3, 1) := by decide +kernel
theorem dX2_coverFor_8 : decode cX2_coverFor 8 = .ok (.ifCond .ge 7, 3) := by decide +kernel
theorem dX2_coverFor_11 : decode cX2_coverFor 11 = .ok (.iconst 0, 1) := by decide +kernel
theorem dX2_coverFor_12 : decode cX2_coverFor 12 = .ok (.goto 13, 3) := by decide +kernel
theorem dX2_coverFor_15 : decode cX2_coverFor 15 = .ok (.getstatic 74, 3) := by decide +kernel
theorem dX2_coverFor_18 : decode cX2_coverFor 18 = .ok (.aload_n 0, 1) := by decide +kernel
theorem dX2_coverFor_19 : decode cX2_coverFor 19 = .ok (.getfield 18, 3) := by decide +kernel
theorem dX2_coverFor_22 : decode cX2_coverFor 22 = .ok (.iload_n 3, 1) := by decide +kernel
theorem dX2_coverFor_23 : decode cX2_coverFor 23 = .ok (.iaload, 1) := by decide +kernel
theorem dX2_coverFor_24 : decode cX2_coverFor 24 = .ok (.iaload, 1) := by decide +kernel
theorem dX2_coverFor_25 : decode cX2_coverFor 25 = .ok (.ireturn, 1) := by decide +kernel
theorem dX2_feltBy_0 : decode cX2_feltBy 0 = .ok (.iconst 0, 1) := by decide +kernel
theorem dX2_feltBy_1 : decode cX2_feltBy 1 = .ok (.aload_n 0, 1) := by decide +kernel
theorem dX2_feltBy_2 : decode cX2_feltBy 2 = .ok (.getfield 25, 3) := by decide +kernel
theorem dX2_feltBy_5 : decode cX2_feltBy 5 = .ok (.iload_n 2, 1) := by decide +kernel
theorem dX2_feltBy_6 : decode cX2_feltBy 6 = .ok (.iaload, 1) := by decide +kernel
theorem dX2_feltBy_7 : decode cX2_feltBy 7 = .ok (.aload_n 0, 1) := by decide +kernel
theorem dX2_feltBy_8 : decode cX2_feltBy 8 = .ok (.iload_n 1, 1) := by decide +kernel
theorem dX2_feltBy_9 : decode cX2_feltBy 9 = .ok (.aload_n 0, 1) := by decide +kernel
theorem dX2_feltBy_10 : decode cX2_feltBy 10 = .ok (.getfield 28, 3) := by decide +kernel
theorem dX2_feltBy_13 : decode cX2_feltBy 13 = .ok (.iload_n 2, 1) := by decide +kernel
theorem dX2_feltBy_14 : decode cX2_feltBy 14 = .ok (.iaload, 1) := by decide +kernel
theorem dX2_feltBy_15 : decode cX2_feltBy 15 = .ok (.invokevirtual 77, 3) := by decide +kernel
theorem dX2_feltBy_18 : decode cX2_feltBy 18 = .ok (.isub, 1) := by decide +kernel
theorem dX2_feltBy_19 : decode cX2_feltBy 19 = .ok (.invokestatic 80, 3) := by decide +kernel
theorem dX2_feltBy_22 : decode cX2_feltBy 22 = .ok (.ireturn, 1) := by decide +kernel
theorem dX2_nearOnes_0 : decode cX2_nearOnes 0 = .ok (.iconst 1, 1) := by decide +kernel
theorem dX2_nearOnes_1 : decode cX2_nearOnes 1 = .ok (.iload_n 1, 1) := by decide +kernel
theorem dX2_nearOnes_2 : decode cX2_nearOnes 2 = .ok (.ishl, 1) := by decide +kernel
theorem dX2_nearOnes_3 : decode cX2_nearOnes 3 = .ok (.istore_n 2, 1) := by decide +kernel
theorem dX2_nearOnes_4 : decode cX2_nearOnes 4 = .ok (.aload_n 0, 1) := by decide +kernel
theorem dX2_nearOnes_5 : decode cX2_nearOnes 5 = .ok (.getfield 37, 3) := by decide +kernel
theorem dX2_nearOnes_8 : decode cX2_nearOnes 8 = .ok (.iconst 1, 1) := by decide +kernel
theorem dX2_nearOnes_9 : decode cX2_nearOnes 9 = .ok (.if_icmp .ne 38, 3) := by decide +kernel
theorem dX2_nearOnes_12 : decode cX2_nearOnes 12 = .ok (.aload_n 0, 1) := by decide +kernel
theorem dX2_nearOnes_13 : decode cX2_nearOnes 13 = .ok (.getfield 31, 3) := by decide +kernel
theorem dX2_nearOnes_16 : decode cX2_nearOnes 16 = .ok (.iconst 1, 1) := by decide +kernel
theorem dX2_nearOnes_17 : decode cX2_nearOnes 17 = .ok (.if_icmp .le 30, 3) := by decide +kernel
theorem dX2_nearOnes_20 : decode cX2_nearOnes 20 = .ok (.iconst 1, 1) := by decide +kernel
theorem dX2_nearOnes_21 : decode cX2_nearOnes 21 = .ok (.iload_n 1, 1) := by decide +kernel
theorem dX2_nearOnes_22 : decode cX2_nearOnes 22 = .ok (.aload_n 0, 1) := by decide +kernel
theorem dX2_nearOnes_23 : decode cX2_nearOnes 23 = .ok (.getfield 31, 3) := by decide +kernel
theorem dX2_nearOnes_26 : decode cX2_nearOnes 26 = .ok (.iadd, 1) := by decide +kernel
theorem dX2_nearOnes_27 : decode cX2_nearOnes 27 = .ok (.iconst 1, 1) := by decide +kernel
theorem dX2_nearOnes_28 : decode cX2_nearOnes 28 = .ok (.isub, 1) := by decide +kernel
theorem dX2_nearOnes_29 : decode cX2_nearOnes 29 = .ok (.aload_n 0, 1) := by decide +kernel
theorem dX2_nearOnes_30 : decode cX2_nearOnes 30 = .ok (.getfield 31, 3) := by decide +kernel
theorem dX2_nearOnes_33 : decode cX2_nearOnes 33 = .ok (.irem, 1) := by decide +kernel
theorem dX2_nearOnes_34 : decode cX2_nearOnes 34 = .ok (.ishl, 1) := by decide +kernel
theorem dX2_nearOnes_35 : decode cX2_nearOnes 35 = .ok (.iconst 1, 1) := by decide +kernel
theorem dX2_nearOnes_36 : decode cX2_nearOnes 36 = .ok (.iload_n 1, 1) := by decide +kernel
theorem dX2_nearOnes_37 : decode cX2_nearOnes 37 = .ok (.iconst 1, 1) := by decide +kernel
theorem dX2_nearOnes_38 : decode cX2_nearOnes 38 = .ok (.iadd, 1) := by decide +kernel
theorem dX2_nearOnes_39 : decode cX2_nearOnes 39 = .ok (.aload_n 0, 1) := by decide +kernel
theorem dX2_nearOnes_40 : decode cX2_nearOnes 40 = .ok (.getfield 31, 3) := by decide +kernel
theorem dX2_nearOnes_43 : decode cX2_nearOnes 43 = .ok (.irem, 1) := by decide +kernel
theorem dX2_nearOnes_44 : decode cX2_nearOnes 44 = .ok (.ishl, 1) := by decide +kernel
theorem dX2_nearOnes_45 : decode cX2_nearOnes 45 = .ok (.ior, 1) := by decide +kernel
theorem dX2_nearOnes_46 : decode cX2_nearOnes 46 = .ok (.ireturn, 1) := by decide +kernel
theorem dX2_nearOnes_47 : decode cX2_nearOnes 47 = .ok (.iload_n 2, 1) := by decide +kernel
theorem dX2_nearOnes_48 : decode cX2_nearOnes 48 = .ok (.iconst 1, 1) := by decide +kernel
theorem dX2_nearOnes_49 : decode cX2_nearOnes 49 = .ok (.ishl, 1) := by decide +kernel
theorem dX2_nearOnes_50 : decode cX2_nearOnes 50 = .ok (.iload_n 2, 1) := by decide +kernel
theorem dX2_nearOnes_51 : decode cX2_nearOnes 51 = .ok (.iconst 1, 1) := by decide +kernel
theorem dX2_nearOnes_52 : decode cX2_nearOnes 52 = .ok (.ishr, 1) := by decide +kernel
theorem dX2_nearOnes_53 : decode cX2_nearOnes 53 = .ok (.ior, 1) := by decide +kernel
theorem dX2_nearOnes_54 : decode cX2_nearOnes 54 = .ok (.istore_n 3, 1) := by decide +kernel
theorem dX2_nearOnes_55 : decode cX2_nearOnes 55 = .ok (.aload_n 0, 1) := by decide +kernel
theorem dX2_nearOnes_56 : decode cX2_nearOnes 56 = .ok (.getfield 37, 3) := by decide +kernel
theorem dX2_nearOnes_59 : decode cX2_nearOnes 59 = .ok (.iconst 2, 1) := by decide +kernel
theorem dX2_nearOnes_60 : decode cX2_nearOnes 60 = .ok (.if_icmp .ne 17, 3) := by decide +kernel
theorem dX2_nearOnes_63 : decode cX2_nearOnes 63 = .ok (.iconst 1, 1) := by decide +kernel
theorem dX2_nearOnes_64 : decode cX2_nearOnes 64 = .ok (.iload_n 1, 1) := by decide +kernel
theorem dX2_nearOnes_65 : decode cX2_nearOnes 65 = .ok (.iconst 1, 1) := by decide +kernel
theorem dX2_nearOnes_66 : decode cX2_nearOnes 66 = .ok (.ixor, 1) := by decide +kernel
theorem dX2_nearOnes_67 : decode cX2_nearOnes 67 = .ok (.ishl, 1) := by decide +kernel
theorem dX2_nearOnes_68 : decode cX2_nearOnes 68 = .ok (.iload_n 2, 1) := by decide +kernel
theorem dX2_nearOnes_69 : decode cX2_nearOnes 69 = .ok (.iconst 2, 1) := by decide +kernel
theorem dX2_nearOnes_70 : decode cX2_nearOnes 70 = .ok (.ishl, 1) := by decide +kernel
theorem dX2_nearOnes_71 : decode cX2_nearOnes 71 = .ok (.ior, 1) := by decide +kernel
theorem dX2_nearOnes_72 : decode cX2_nearOnes 72 = .ok (.iload_n 2, 1) := by decide +kernel
theorem dX2_nearOnes_73 : decode cX2_nearOnes 73 = .ok (.iconst 2, 1) := by decide +kernel
theorem dX2_nearOnes_74 : decode cX2_nearOnes 74 = .ok (.ishr, 1) := by decide +kernel
theorem dX2_nearOnes_75 : decode cX2_nearOnes 75 = .ok (.ior, 1) := by decide +kernel
theorem dX2_nearOnes_76 : decode cX2_nearOnes 76 = .ok (.istore_n 3, 1) := by decide +kernel
theorem dX2_nearOnes_77 : decode cX2_nearOnes 77 = .ok (.iload_n 3, 1) := by decide +kernel
theorem dX2_nearOnes_78 : decode cX2_nearOnes 78 = .ok (.aload_n 0, 1) := by decide +kernel
theorem dX2_nearOnes_79 : decode cX2_nearOnes 79 = .ok (.invokevirtual 85, 3) := by decide +kernel
theorem dX2_nearOnes_82 : decode cX2_nearOnes 82 = .ok (.iand, 1) := by decide +kernel
theorem dX2_nearOnes_83 : decode cX2_nearOnes 83 = .ok (.ireturn, 1) := by decide +kernel
theorem dX2_lightOf_0 : decode cX2_lightOf 0 = .ok (.iconst 0, 1) := by decide +kernel
theorem dX2_lightOf_1 : decode cX2_lightOf 1 = .ok (.istore_n 2, 1) := by decide +kernel
theorem dX2_lightOf_2 : decode cX2_lightOf 2 = .ok (.iconst 0, 1) := by decide +kernel
theorem dX2_lightOf_3 : decode cX2_lightOf 3 = .ok (.istore_n 3, 1) := by decide +kernel
theorem dX2_lightOf_4 : decode cX2_lightOf 4 = .ok (.iload_n 3, 1) := by decide +kernel
theorem dX2_lightOf_5 : decode cX2_lightOf 5 = .ok (.aload_n 0, 1) := by decide +kernel
theorem dX2_lightOf_6 : decode cX2_lightOf 6 = .ok (.getfield 31, 3) := by decide +kernel
theorem dX2_lightOf_9 : decode cX2_lightOf 9 = .ok (.if_icmp .ge 30, 3) := by decide +kernel
theorem dX2_lightOf_12 : decode cX2_lightOf 12 = .ok (.iload_n 1, 1) := by decide +kernel
theorem dX2_lightOf_13 : decode cX2_lightOf 13 = .ok (.iload_n 3, 1) := by decide +kernel
theorem dX2_lightOf_14 : decode cX2_lightOf 14 = .ok (.invokestatic 56, 3) := by decide +kernel
theorem dX2_lightOf_17 : decode cX2_lightOf 17 = .ok (.ifCond .eq 16, 3) := by decide +kernel
theorem dX2_lightOf_20 : decode cX2_lightOf 20 = .ok (.iload_n 2, 1) := by decide +kernel
theorem dX2_lightOf_21 : decode cX2_lightOf 21 = .ok (.getstatic 89, 3) := by decide +kernel
theorem dX2_lightOf_24 : decode cX2_lightOf 24 = .ok (.aload_n 0, 1) := by decide +kernel
theorem dX2_lightOf_25 : decode cX2_lightOf 25 = .ok (.getfield 18, 3) := by decide +kernel
theorem dX2_lightOf_28 : decode cX2_lightOf 28 = .ok (.iload_n 3, 1) := by decide +kernel
theorem dX2_lightOf_29 : decode cX2_lightOf 29 = .ok (.iaload, 1) := by decide +kernel
theorem dX2_lightOf_30 : decode cX2_lightOf 30 = .ok (.iaload, 1) := by decide +kernel
theorem dX2_lightOf_31 : decode cX2_lightOf 31 = .ok (.iadd, 1) := by decide +kernel
theorem dX2_lightOf_32 : decode cX2_lightOf 32 = .ok (.istore_n 2, 1) := by decide +kernel
theorem dX2_lightOf_33 : decode cX2_lightOf 33 = .ok (.iinc 3 1, 3) := by decide +kernel
theorem dX2_lightOf_36 : decode cX2_lightOf 36 = .ok (.goto (-32), 3) := by decide +kernel
theorem dX2_lightOf_39 : decode cX2_lightOf 39 = .ok (.iload_n 2, 1) := by decide +kernel
theorem dX2_lightOf_40 : decode cX2_lightOf 40 = .ok (.ireturn, 1) := by decide +kernel
theorem dX2_tellOf_0 : decode cX2_tellOf 0 = .ok (.iload_n 2, 1) := by decide +kernel
theorem dX2_tellOf_1 : decode cX2_tellOf 1 = .ok (.tableswitch 95 0 5 #[39, 46, 53, 67, 78, 84], 39) := by decide +kernel
theorem dX2_tellOf_40 : decode cX2_tellOf 40 = .ok (.aload_n 0, 1) := by decide +kernel
theorem dX2_tellOf_41 : decode cX2_tellOf 41 = .ok (.getfield 18, 3) := by decide +kernel
theorem dX2_tellOf_44 : decode cX2_tellOf 44 = .ok (.iload_n 1, 1) := by decide +kernel
theorem dX2_tellOf_45 : decode cX2_tellOf 45 = .ok (.iaload, 1) := by decide +kernel
theorem dX2_tellOf_46 : decode cX2_tellOf 46 = .ok (.ireturn, 1) := by decide +kernel
theorem dX2_tellOf_47 : decode cX2_tellOf 47 = .ok (.aload_n 0, 1) := by decide +kernel
theorem dX2_tellOf_48 : decode cX2_tellOf 48 = .ok (.getfield 22, 3) := by decide +kernel
theorem dX2_tellOf_51 : decode cX2_tellOf 51 = .ok (.iload_n 1, 1) := by decide +kernel
theorem dX2_tellOf_52 : decode cX2_tellOf 52 = .ok (.iaload, 1) := by decide +kernel
theorem dX2_tellOf_53 : decode cX2_tellOf 53 = .ok (.ireturn, 1) := by decide +kernel
theorem dX2_tellOf_54 : decode cX2_tellOf 54 = .ok (.aload_n 0, 1) := by decide +kernel
theorem dX2_tellOf_55 : decode cX2_tellOf 55 = .ok (.iload_n 1, 1) := by decide +kernel
theorem dX2_tellOf_56 : decode cX2_tellOf 56 = .ok (.invokevirtual 64, 3) := by decide +kernel
theorem dX2_tellOf_59 : decode cX2_tellOf 59 = .ok (.ifCond .eq 7, 3) := by decide +kernel
theorem dX2_tellOf_62 : decode cX2_tellOf 62 = .ok (.iconst 1, 1) := by decide +kernel
theorem dX2_tellOf_63 : decode cX2_tellOf 63 = .ok (.goto 4, 3) := by decide +kernel
theorem dX2_tellOf_66 : decode cX2_tellOf 66 = .ok (.iconst 0, 1) := by decide +kernel
theorem dX2_tellOf_67 : decode cX2_tellOf 67 = .ok (.ireturn, 1) := by decide +kernel
theorem dX2_tellOf_68 : decode cX2_tellOf 68 = .ok (.getstatic 74, 3) := by decide +kernel
theorem dX2_tellOf_71 : decode cX2_tellOf 71 = .ok (.aload_n 0, 1) := by decide +kernel
theorem dX2_tellOf_72 : decode cX2_tellOf 72 = .ok (.getfield 18, 3) := by decide +kernel
theorem dX2_tellOf_75 : decode cX2_tellOf 75 = .ok (.iload_n 1, 1) := by decide +kernel
theorem dX2_tellOf_76 : decode cX2_tellOf 76 = .ok (.iaload, 1) := by decide +kernel
theorem dX2_tellOf_77 : decode cX2_tellOf 77 = .ok (.iaload, 1) := by decide +kernel
theorem dX2_tellOf_78 : decode cX2_tellOf 78 = .ok (.ireturn, 1) := by decide +kernel
theorem dX2_tellOf_79 : decode cX2_tellOf 79 = .ok (.aload_n 0, 1) := by decide +kernel
theorem dX2_tellOf_80 : decode cX2_tellOf 80 = .ok (.iload_n 1, 1) := by decide +kernel
theorem dX2_tellOf_81 : decode cX2_tellOf 81 = .ok (.invokevirtual 92, 3) := by decide +kernel
theorem dX2_tellOf_84 : decode cX2_tellOf 84 = .ok (.ireturn, 1) := by decide +kernel
theorem dX2_tellOf_85 : decode cX2_tellOf 85 = .ok (.getstatic 89, 3) := by decide +kernel
theorem dX2_tellOf_88 : decode cX2_tellOf 88 = .ok (.aload_n 0, 1) := by decide +kernel
theorem dX2_tellOf_89 : decode cX2_tellOf 89 = .ok (.getfield 18, 3) := by decide +kernel
theorem dX2_tellOf_92 : decode cX2_tellOf 92 = .ok (.iload_n 1, 1) := by decide +kernel
theorem dX2_tellOf_93 : decode cX2_tellOf 93 = .ok (.iaload, 1) := by decide +kernel
theorem dX2_tellOf_94 : decode cX2_tellOf 94 = .ok (.iaload, 1) := by decide +kernel
theorem dX2_tellOf_95 : decode cX2_tellOf 95 = .ok (.ireturn, 1) := by decide +kernel
theorem dX2_tellOf_96 : decode cX2_tellOf 96 = .ok (.aload_n 0, 1) := by decide +kernel
theorem dX2_tellOf_97 : decode cX2_tellOf 97 = .ok (.iload_n 1, 1) := by decide +kernel
theorem dX2_tellOf_98 : decode cX2_tellOf 98 = .ok (.aload_n 0, 1) := by decide +kernel
theorem dX2_tellOf_99 : decode cX2_tellOf 99 = .ok (.getfield 40, 3) := by decide +kernel
theorem dX2_tellOf_102 : decode cX2_tellOf 102 = .ok (.invokevirtual 96, 3) := by decide +kernel
theorem dX2_tellOf_105 : decode cX2_tellOf 105 = .ok (.ireturn, 1) := by decide +kernel
theorem dX2_blowFrom_0 : decode cX2_blowFrom 0 = .ok (.iconst 0, 1) := by decide +kernel
theorem dX2_blowFrom_1 : decode cX2_blowFrom 1 = .ok (.istore_n 2, 1) := by decide +kernel
theorem dX2_blowFrom_2 : decode cX2_blowFrom 2 = .ok (.iload_n 2, 1) := by decide +kernel
theorem dX2_blowFrom_3 : decode cX2_blowFrom 3 = .ok (.bipush 24, 2) := by decide +kernel
theorem dX2_blowFrom_5 : decode cX2_blowFrom 5 = .ok (.if_icmp .gt 16, 3) := by decide +kernel
theorem dX2_blowFrom_8 : decode cX2_blowFrom 8 = .ok (.aload_n 0, 1) := by decide +kernel
theorem dX2_blowFrom_9 : decode cX2_blowFrom 9 = .ok (.getfield 28, 3) := by decide +kernel
theorem dX2_blowFrom_12 : decode cX2_blowFrom 12 = .ok (.iload_n 2, 1) := by decide +kernel
theorem dX2_blowFrom_13 : decode cX2_blowFrom 13 = .ok (.iload_n 1, 1) := by decide +kernel
theorem dX2_blowFrom_14 : decode cX2_blowFrom 14 = .ok (.iastore, 1) := by decide +kernel
theorem dX2_blowFrom_15 : decode cX2_blowFrom 15 = .ok (.iinc 2 1, 3) := by decide +kernel
theorem dX2_blowFrom_18 : decode cX2_blowFrom 18 = .ok (.goto (-16), 3) := by decide +kernel
theorem dX2_blowFrom_21 : decode cX2_blowFrom 21 = .ok (.return_, 1) := by decide +kernel
theorem dX3_init_0 : decode cX3_init 0 = .ok (.aload_n 0, 1) := by decide +kernel
theorem dX3_init_1 : decode cX3_init 1 = .ok (.invokespecial 3, 3) := by decide +kernel
theorem dX3_init_4 : decode cX3_init 4 = .ok (.aload_n 0, 1) := by decide +kernel
theorem dX3_init_5 : decode cX3_init 5 = .ok (.bipush 96, 2) := by decide +kernel
theorem dX3_init_7 : decode cX3_init 7 = .ok (.newarray .int, 2) := by decide +kernel
theorem dX3_init_9 : decode cX3_init 9 = .ok (.putfield 9, 3) := by decide +kernel
theorem dX3_init_12 : decode cX3_init 12 = .ok (.aload_n 0, 1) := by decide +kernel
theorem dX3_init_13 : decode cX3_init 13 = .ok (.aload_n 1, 1) := by decide +kernel
theorem dX3_init_14 : decode cX3_init 14 = .ok (.putfield 15, 3) := by decide +kernel
theorem dX3_init_17 : decode cX3_init 17 = .ok (.aload_n 0, 1) := by decide +kernel
theorem dX3_init_18 : decode cX3_init 18 = .ok (.aload_n 2, 1) := by decide +kernel
theorem dX3_init_19 : decode cX3_init 19 = .ok (.putfield 19, 3) := by decide +kernel
theorem dX3_init_22 : decode cX3_init 22 = .ok (.return_, 1) := by decide +kernel
theorem dX3_isFull_0 : decode cX3_isFull 0 = .ok (.aload_n 0, 1) := by decide +kernel
theorem dX3_isFull_1 : decode cX3_isFull 1 = .ok (.getfield 23, 3) := by decide +kernel
theorem dX3_isFull_4 : decode cX3_isFull 4 = .ok (.bipush 96, 2) := by decide +kernel
theorem dX3_isFull_6 : decode cX3_isFull 6 = .ok (.if_icmp .lt 7, 3) := by decide +kernel
theorem dX3_isFull_9 : decode cX3_isFull 9 = .ok (.iconst 1, 1) := by decide +kernel
theorem dX3_isFull_10 : decode cX3_isFull 10 = .ok (.goto 4, 3) := by decide +kernel
theorem dX3_isFull_13 : decode cX3_isFull 13 = .ok (.iconst 0, 1) := by decide +kernel
theorem dX3_isFull_14 : decode cX3_isFull 14 = .ok (.ireturn, 1) := by decide +kernel
theorem dX3_append_0 : decode cX3_append 0 = .ok (.aload_n 0, 1) := by decide +kernel
theorem dX3_append_1 : decode cX3_append 1 = .ok (.invokevirtual 27, 3) := by decide +kernel
theorem dX3_append_4 : decode cX3_append 4 = .ok (.ifCond .ne 23, 3) := by decide +kernel
theorem dX3_append_7 : decode cX3_append 7 = .ok (.aload_n 0, 1) := by decide +kernel
theorem dX3_append_8 : decode cX3_append 8 = .ok (.getfield 9, 3) := by decide +kernel
theorem dX3_append_11 : decode cX3_append 11 = .ok (.aload_n 0, 1) := by decide +kernel
theorem dX3_append_12 : decode cX3_append 12 = .ok (.getfield 23, 3) := by decide +kernel
theorem dX3_append_15 : decode cX3_append 15 = .ok (.iload_n 1, 1) := by decide +kernel
theorem dX3_append_16 : decode cX3_append 16 = .ok (.iastore, 1) := by decide +kernel
theorem dX3_append_17 : decode cX3_append 17 = .ok (.aload_n 0, 1) := by decide +kernel
theorem dX3_append_18 : decode cX3_append 18 = .ok (.dup, 1) := by decide +kernel
theorem dX3_append_19 : decode cX3_append 19 = .ok (.getfield 23, 3) := by decide +kernel
theorem dX3_append_22 : decode cX3_append 22 = .ok (.iconst 1, 1) := by decide +kernel
theorem dX3_append_23 : decode cX3_append 23 = .ok (.iadd, 1) := by decide +kernel
theorem dX3_append_24 : decode cX3_append 24 = .ok (.putfield 23, 3) := by decide +kernel
theorem dX3_append_27 : decode cX3_append 27 = .ok (.aload_n 0, 1) := by decide +kernel
theorem dX3_append_28 : decode cX3_append 28 = .ok (.getfield 23, 3) := by decide +kernel
theorem dX3_append_31 : decode cX3_append 31 = .ok (.ireturn, 1) := by decide +kernel
theorem dX3_textFault_0 : decode cX3_textFault 0 = .ok (.iconst (-1), 1) := by decide +kernel
theorem dX3_textFault_1 : decode cX3_textFault 1 = .ok (.istore_n 1, 1) := by decide +kernel
theorem dX3_textFault_2 : decode cX3_textFault 2 = .ok (.iconst 0, 1) := by decide +kernel
theorem dX3_textFault_3 : decode cX3_textFault 3 = .ok (.istore_n 2, 1) := by decide +kernel
theorem dX3_textFault_4 : decode cX3_textFault 4 = .ok (.iload_n 2, 1) := by decide +kernel
theorem dX3_textFault_5 : decode cX3_textFault 5 = .ok (.aload_n 0, 1) := by decide +kernel
theorem dX3_textFault_6 : decode cX3_textFault 6 = .ok (.getfield 23, 3) := by decide +kernel
theorem dX3_textFault_9 : decode cX3_textFault 9 = .ok (.if_icmp .ge 78, 3) := by decide +kernel
theorem dX3_textFault_12 : decode cX3_textFault 12 = .ok (.aload_n 0, 1) := by decide +kernel
theorem dX3_textFault_13 : decode cX3_textFault 13 = .ok (.getfield 9, 3) := by decide +kernel
theorem dX3_textFault_16 : decode cX3_textFault 16 = .ok (.iload_n 2, 1) := by decide +kernel
theorem dX3_textFault_17 : decode cX3_textFault 17 = .ok (.iaload, 1) := by decide +kernel
theorem dX3_textFault_18 : decode cX3_textFault 18 = .ok (.istore_n 3, 1) := by decide +kernel
theorem dX3_textFault_19 : decode cX3_textFault 19 = .ok (.iload_n 1, 1) := by decide +kernel
theorem dX3_textFault_20 : decode cX3_textFault 20 = .ok (.iconst (-1), 1) := by decide +kernel
theorem dX3_textFault_21 : decode cX3_textFault 21 = .ok (.if_icmp .ne 18, 3) := by decide +kernel
theorem dX3_textFault_24 : decode cX3_textFault 24 = .ok (.iload_n 3, 1) := by decide +kernel
theorem dX3_textFault_25 : decode cX3_textFault 25 = .ok (.invokestatic 31, 3) := by decide +kernel
theorem dX3_textFault_28 : decode cX3_textFault 28 = .ok (.istore_n 1, 1) := by decide +kernel
theorem dX3_textFault_29 : decode cX3_textFault 29 = .ok (.iload_n 1, 1) := by decide +kernel
theorem dX3_textFault_30 : decode cX3_textFault 30 = .ok (.ifCond .ge 51, 3) := by decide +kernel
theorem dX3_textFault_33 : decode cX3_textFault 33 = .ok (.sipush (-1000), 3) := by decide +kernel
theorem dX3_textFault_36 : decode cX3_textFault 36 = .ok (.iload_n 2, 1) := by decide +kernel
theorem dX3_textFault_37 : decode cX3_textFault 37 = .ok (.isub, 1) := by decide +kernel
theorem dX3_textFault_38 : decode cX3_textFault 38 = .ok (.ireturn, 1) := by decide +kernel
theorem dX3_textFault_39 : decode cX3_textFault 39 = .ok (.iload_n 1, 1) := by decide +kernel
theorem dX3_textFault_40 : decode cX3_textFault 40 = .ok (.ifCond .le 27, 3) := by decide +kernel
theorem dX3_textFault_43 : decode cX3_textFault 43 = .ok (.iload_n 3, 1) := by decide +kernel
theorem dX3_textFault_44 : decode cX3_textFault 44 = .ok (.bipush 48, 2) := by decide +kernel
theorem dX3_textFault_46 : decode cX3_textFault 46 = .ok (.if_icmp .lt 9, 3) := by decide +kernel
theorem dX3_textFault_49 : decode cX3_textFault 49 = .ok (.iload_n 3, 1) := by decide +kernel
theorem dX3_textFault_50 : decode cX3_textFault 50 = .ok (.bipush 57, 2) := by decide +kernel
theorem dX3_textFault_52 : decode cX3_textFault 52 = .ok (.if_icmp .le 9, 3) := by decide +kernel
theorem dX3_textFault_55 : decode cX3_textFault 55 = .ok (.sipush (-1000), 3) := by decide +kernel
theorem dX3_textFault_58 : decode cX3_textFault 58 = .ok (.iload_n 2, 1) := by decide +kernel
theorem dX3_textFault_59 : decode cX3_textFault 59 = .ok (.isub, 1) := by decide +kernel
theorem dX3_textFault_60 : decode cX3_textFault 60 = .ok (.ireturn, 1) := by decide +kernel
theorem dX3_textFault_61 : decode cX3_textFault 61 = .ok (.iinc 1 (-1), 3) := by decide +kernel
theorem dX3_textFault_64 : decode cX3_textFault 64 = .ok (.goto 17, 3) := by decide +kernel
theorem dX3_textFault_67 : decode cX3_textFault 67 = .ok (.iload_n 3, 1) := by decide +kernel
theorem dX3_textFault_68 : decode cX3_textFault 68 = .ok (.bipush 59, 2) := by decide +kernel
theorem dX3_textFault_70 : decode cX3_textFault 70 = .ok (.if_icmp .eq 9, 3) := by decide +kernel
theorem dX3_textFault_73 : decode cX3_textFault 73 = .ok (.sipush (-1000), 3) := by decide +kernel
theorem dX3_textFault_76 : decode cX3_textFault 76 = .ok (.iload_n 2, 1) := by decide +kernel
theorem dX3_textFault_77 : decode cX3_textFault 77 = .ok (.isub, 1) := by decide +kernel
theorem dX3_textFault_78 : decode cX3_textFault 78 = .ok (.ireturn, 1) := by decide +kernel
theorem dX3_textFault_79 : decode cX3_textFault 79 = .ok (.iconst (-1), 1) := by decide +kernel
theorem dX3_textFault_80 : decode cX3_textFault 80 = .ok (.istore_n 1, 1) := by decide +kernel
theorem dX3_textFault_81 : decode cX3_textFault 81 = .ok (.iinc 2 1, 3) := by decide +kernel
theorem dX3_textFault_84 : decode cX3_textFault 84 = .ok (.goto (-80), 3) := by decide +kernel
theorem dX3_textFault_87 : decode cX3_textFault 87 = .ok (.aload_n 0, 1) := by decide +kernel
theorem dX3_textFault_88 : decode cX3_textFault 88 = .ok (.getfield 23, 3) := by decide +kernel
theorem dX3_textFault_91 : decode cX3_textFault 91 = .ok (.ifCond .le 12, 3) := by decide +kernel
theorem dX3_textFault_94 : decode cX3_textFault 94 = .ok (.iload_n 1, 1) := by decide +kernel
theorem dX3_textFault_95 : decode cX3_textFault 95 = .ok (.iconst (-1), 1) := by decide +kernel
theorem dX3_textFault_96 : decode cX3_textFault 96 = .ok (.if_icmp .ne 7, 3) := by decide +kernel
theorem dX3_textFault_99 : decode cX3_textFault 99 = .ok (.iconst 0, 1) := by decide +kernel
theorem dX3_textFault_100 : decode cX3_textFault 100 = .ok (.goto 11, 3) := by decide +kernel
theorem dX3_textFault_103 : decode cX3_textFault 103 = .ok (.sipush (-1000), 3) := by decide +kernel
theorem dX3_textFault_106 : decode cX3_textFault 106 = .ok (.aload_n 0, 1) := by decide +kernel
theorem dX3_textFault_107 : decode cX3_textFault 107 = .ok (.getfield 23, 3) := by decide +kernel
theorem dX3_textFault_110 : decode cX3_textFault 110 = .ok (.isub, 1) := by decide +kernel
theorem dX3_textFault_111 : decode cX3_textFault 111 = .ok (.ireturn, 1) := by decide +kernel
theorem dX3_comeTo_0 : decode cX3_comeTo 0 = .ok (.aload_n 0, 1) := by decide +kernel
theorem dX3_comeTo_1 : decode cX3_comeTo 1 = .ok (.getfield 15, 3) := by decide +kernel
theorem dX3_comeTo_4 : decode cX3_comeTo 4 = .ok (.aload_n 1, 1) := by decide +kernel
theorem dX3_comeTo_5 : decode cX3_comeTo 5 = .ok (.invokevirtual 35, 3) := by decide +kernel
theorem dX3_comeTo_8 : decode cX3_comeTo 8 = .ok (.iconst 0, 1) := by decide +kernel
theorem dX3_comeTo_9 : decode cX3_comeTo 9 = .ok (.istore_n 2, 1) := by decide +kernel
theorem dX3_comeTo_10 : decode cX3_comeTo 10 = .ok (.iconst 0, 1) := by decide +kernel
theorem dX3_comeTo_11 : decode cX3_comeTo 11 = .ok (.istore_n 3, 1) := by decide +kernel
theorem dX3_comeTo_12 : decode cX3_comeTo 12 = .ok (.iconst 0, 1) := by decide +kernel
theorem dX3_comeTo_13 : decode cX3_comeTo 13 = .ok (.istore 4, 2) := by decide +kernel
theorem dX3_comeTo_15 : decode cX3_comeTo 15 = .ok (.iload 4, 2) := by decide +kernel
theorem dX3_comeTo_17 : decode cX3_comeTo 17 = .ok (.bipush 96, 2) := by decide +kernel
theorem dX3_comeTo_19 : decode cX3_comeTo 19 = .ok (.if_icmp .ge 48, 3) := by decide +kernel
theorem dX3_comeTo_22 : decode cX3_comeTo 22 = .ok (.iload_n 3, 1) := by decide +kernel
theorem dX3_comeTo_23 : decode cX3_comeTo 23 = .ok (.aload_n 0, 1) := by decide +kernel
theorem dX3_comeTo_24 : decode cX3_comeTo 24 = .ok (.getfield 23, 3) := by decide +kernel
theorem dX3_comeTo_27 : decode cX3_comeTo 27 = .ok (.if_icmp .ge 40, 3) := by decide +kernel
theorem dX3_comeTo_30 : decode cX3_comeTo 30 = .ok (.aload_n 0, 1) := by decide +kernel
theorem dX3_comeTo_31 : decode cX3_comeTo 31 = .ok (.iload_n 3, 1) := by decide +kernel
theorem dX3_comeTo_32 : decode cX3_comeTo 32 = .ok (.invokevirtual 41, 3) := by decide +kernel
theorem dX3_comeTo_35 : decode cX3_comeTo 35 = .ok (.ifCond .ne 9, 3) := by decide +kernel
theorem dX3_comeTo_38 : decode cX3_comeTo 38 = .ok (.sipush (-2000), 3) := by decide +kernel
theorem dX3_comeTo_41 : decode cX3_comeTo 41 = .ok (.iload_n 3, 1) := by decide +kernel
theorem dX3_comeTo_42 : decode cX3_comeTo 42 = .ok (.isub, 1) := by decide +kernel
theorem dX3_comeTo_43 : decode cX3_comeTo 43 = .ok (.ireturn, 1) := by decide +kernel
theorem dX3_comeTo_44 : decode cX3_comeTo 44 = .ok (.iinc 2 1, 3) := by decide +kernel
theorem dX3_comeTo_47 : decode cX3_comeTo 47 = .ok (.iload_n 3, 1) := by decide +kernel
theorem dX3_comeTo_48 : decode cX3_comeTo 48 = .ok (.aload_n 0, 1) := by decide +kernel
theorem dX3_comeTo_49 : decode cX3_comeTo 49 = .ok (.getfield 9, 3) := by decide +kernel
theorem dX3_comeTo_52 : decode cX3_comeTo 52 = .ok (.iload_n 3, 1) := by decide +kernel
theorem dX3_comeTo_53 : decode cX3_comeTo 53 = .ok (.iaload, 1) := by decide +kernel
theorem dX3_comeTo_54 : decode cX3_comeTo 54 = .ok (.invokestatic 31, 3) := by decide +kernel
theorem dX3_comeTo_57 : decode cX3_comeTo 57 = .ok (.iconst 2, 1) := by decide +kernel
theorem dX3_comeTo_58 : decode cX3_comeTo 58 = .ok (.iadd, 1) := by decide +kernel
theorem dX3_comeTo_59 : decode cX3_comeTo 59 = .ok (.iadd, 1) := by decide +kernel
theorem dX3_comeTo_60 : decode cX3_comeTo 60 = .ok (.istore_n 3, 1) := by decide +kernel
theorem dX3_comeTo_61 : decode cX3_comeTo 61 = .ok (.iinc 4 1, 3) := by decide +kernel
theorem dX3_comeTo_64 : decode cX3_comeTo 64 = .ok (.goto (-49), 3) := by decide +kernel
theorem dX3_comeTo_67 : decode cX3_comeTo 67 = .ok (.aload_n 1, 1) := by decide +kernel
theorem dX3_comeTo_68 : decode cX3_comeTo 68 = .ok (.aload_n 0, 1) := by decide +kernel
theorem dX3_comeTo_69 : decode cX3_comeTo 69 = .ok (.getfield 15, 3) := by decide +kernel
theorem dX3_comeTo_72 : decode cX3_comeTo 72 = .ok (.invokevirtual 35, 3) := by decide +kernel
theorem dX3_comeTo_75 : decode cX3_comeTo 75 = .ok (.iload_n 2, 1) := by decide +kernel
theorem dX3_comeTo_76 : decode cX3_comeTo 76 = .ok (.ireturn, 1) := by decide +kernel
theorem dX3_digitsBehind_0 : decode cX3_digitsBehind 0 = .ok (.iload_n 0, 1) := by decide +kernel
theorem dX3_digitsBehind_1 : decode cX3_digitsBehind 1 = .ok (.tableswitch 107 100 119 #[101, 107, 99, 107, 107, 107, 107, 107, 103, 105, 107, 107, 95, 107, 107, 107, 107, 107, 107, 97], 95) := by decide +kernel
theorem dX3_digitsBehind_96 : decode cX3_digitsBehind 96 = .ok (.iconst 3, 1) := by decide +kernel
theorem dX3_digitsBehind_97 : decode cX3_digitsBehind 97 = .ok (.ireturn, 1) := by decide +kernel
theorem dX3_digitsBehind_98 : decode cX3_digitsBehind 98 = .ok (.iconst 4, 1) := by decide +kernel
theorem dX3_digitsBehind_99 : decode cX3_digitsBehind 99 = .ok (.ireturn, 1) := by decide +kernel
theorem dX3_digitsBehind_100 : decode cX3_digitsBehind 100 = .ok (.iconst 2, 1) := by decide +kernel
theorem dX3_digitsBehind_101 : decode cX3_digitsBehind 101 = .ok (.ireturn, 1) := by decide +kernel
theorem dX3_digitsBehind_102 : decode cX3_digitsBehind 102 = .ok (.iconst 2, 1) := by decide +kernel
theorem dX3_digitsBehind_103 : decode cX3_digitsBehind 103 = .ok (.ireturn, 1) := by decide +kernel
theorem dX3_digitsBehind_104 : decode cX3_digitsBehind 104 = .ok (.iconst 1, 1) := by decide +kernel
theorem dX3_digitsBehind_105 : decode cX3_digitsBehind 105 = .ok (.ireturn, 1) := by decide +kernel
theorem dX3_digitsBehind_106 : decode cX3_digitsBehind 106 = .ok (.iconst 1, 1) := by decide +kernel
theorem dX3_digitsBehind_107 : decode cX3_digitsBehind 107 = .ok (.ireturn, 1) := by decide +kernel
theorem dX3_digitsBehind_108 : decode cX3_digitsBehind 108 = .ok (.iconst (-1), 1) := by decide +kernel
theorem dX3_digitsBehind_109 : decode cX3_digitsBehind 109 = .ok (.ireturn, 1) := by decide +kernel
theorem dX3_digitAt_0 : decode cX3_digitAt 0 = .ok (.iload_n 1, 1) := by decide +kernel
theorem dX3_digitAt_1 : decode cX3_digitAt 1 = .ok (.ifCond .lt 23, 3) := by decide +kernel
theorem dX3_digitAt_4 : decode cX3_digitAt 4 = .ok (.iload_n 1, 1) := by decide +kernel
theorem dX3_digitAt_5 : decode cX3_digitAt 5 = .ok (.aload_n 0, 1) := by decide +kernel
theorem dX3_digitAt_6 : decode cX3_digitAt 6 = .ok (.getfield 23, 3) := by decide +kernel
theorem dX3_digitAt_9 : decode cX3_digitAt 9 = .ok (.if_icmp .ge 15, 3) := by decide +kernel
theorem dX3_digitAt_12 : decode cX3_digitAt 12 = .ok (.aload_n 0, 1) := by decide +kernel
theorem dX3_digitAt_13 : decode cX3_digitAt 13 = .ok (.getfield 9, 3) := by decide +kernel
theorem dX3_digitAt_16 : decode cX3_digitAt 16 = .ok (.iload_n 1, 1) := by decide +kernel
theorem dX3_digitAt_17 : decode cX3_digitAt 17 = .ok (.iaload, 1) := by decide +kernel
theorem dX3_digitAt_18 : decode cX3_digitAt 18 = .ok (.bipush 48, 2) := by decide +kernel
theorem dX3_digitAt_20 : decode cX3_digitAt 20 = .ok (.isub, 1) := by decide +kernel
theorem dX3_digitAt_21 : decode cX3_digitAt 21 = .ok (.goto 4, 3) := by decide +kernel
theorem dX3_digitAt_24 : decode cX3_digitAt 24 = .ok (.iconst 0, 1) := by decide +kernel
theorem dX3_digitAt_25 : decode cX3_digitAt 25 = .ok (.ireturn, 1) := by decide +kernel
theorem dX3_twoDigitsAt_0 : decode cX3_twoDigitsAt 0 = .ok (.bipush 10, 2) := by decide +kernel
theorem dX3_twoDigitsAt_2 : decode cX3_twoDigitsAt 2 = .ok (.aload_n 0, 1) := by decide +kernel
theorem dX3_twoDigitsAt_3 : decode cX3_twoDigitsAt 3 = .ok (.iload_n 1, 1) := by decide +kernel
theorem dX3_twoDigitsAt_4 : decode cX3_twoDigitsAt 4 = .ok (.invokevirtual 45, 3) := by decide +kernel
theorem dX3_twoDigitsAt_7 : decode cX3_twoDigitsAt 7 = .ok (.imul, 1) := by decide +kernel
theorem dX3_twoDigitsAt_8 : decode cX3_twoDigitsAt 8 = .ok (.aload_n 0, 1) := by decide +kernel
theorem dX3_twoDigitsAt_9 : decode cX3_twoDigitsAt 9 = .ok (.iload_n 1, 1) := by decide +kernel
theorem dX3_twoDigitsAt_10 : decode cX3_twoDigitsAt 10 = .ok (.iconst 1, 1) := by decide +kernel
theorem dX3_twoDigitsAt_11 : decode cX3_twoDigitsAt 11 = .ok (.iadd, 1) := by decide +kernel
theorem dX3_twoDigitsAt_12 : decode cX3_twoDigitsAt 12 = .ok (.invokevirtual 45, 3) := by decide +kernel
theorem dX3_twoDigitsAt_15 : decode cX3_twoDigitsAt 15 = .ok (.iadd, 1) := by decide +kernel
theorem dX3_twoDigitsAt_16 : decode cX3_twoDigitsAt 16 = .ok (.ireturn, 1) := by decide +kernel
theorem dX3_comes_0 : decode cX3_comes 0 = .ok (.aload_n 0, 1) := by decide +kernel
theorem dX3_comes_1 : decode cX3_comes 1 = .ok (.getfield 9, 3) := by decide +kernel
theorem dX3_comes_4 : decode cX3_comes 4 = .ok (.iload_n 1, 1) := by decide +kernel
theorem dX3_comes_5 : decode cX3_comes 5 = .ok (.iaload, 1) := by decide +kernel
theorem dX3_comes_6 : decode cX3_comes 6 = .ok (.lookupswitch 145 #[(100, 121), (102, 102), (108, 133), (112, 50), (119, 76)], 50) := by decide +kernel
theorem dX3_comes_56 : decode cX3_comes 56 = .ok (.aload_n 0, 1) := by decide +kernel
theorem dX3_comes_57 : decode cX3_comes 57 = .ok (.aload_n 0, 1) := by decide +kernel
theorem dX3_comes_58 : decode cX3_comes 58 = .ok (.iload_n 1, 1) := by decide +kernel
theorem dX3_comes_59 : decode cX3_comes 59 = .ok (.iconst 1, 1) := by decide +kernel
theorem dX3_comes_60 : decode cX3_comes 60 = .ok (.iadd, 1) := by decide +kernel
theorem dX3_comes_61 : decode cX3_comes 61 = .ok (.invokevirtual 45, 3) := by decide +kernel
theorem dX3_comes_64 : decode cX3_comes 64 = .ok (.aload_n 0, 1) := by decide +kernel
theorem dX3_comes_65 : decode cX3_comes 65 = .ok (.iload_n 1, 1) := by decide +kernel
theorem dX3_comes_66 : decode cX3_comes 66 = .ok (.iconst 2, 1) := by decide +kernel
theorem dX3_comes_67 : decode cX3_comes 67 = .ok (.iadd, 1) := by decide +kernel
theorem dX3_comes_68 : decode cX3_comes 68 = .ok (.invokevirtual 45, 3) := by decide +kernel
theorem dX3_comes_71 : decode cX3_comes 71 = .ok (.aload_n 0, 1) := by decide +kernel
theorem dX3_comes_72 : decode cX3_comes 72 = .ok (.iload_n 1, 1) := by decide +kernel
theorem dX3_comes_73 : decode cX3_comes 73 = .ok (.iconst 3, 1) := by decide +kernel
theorem dX3_comes_74 : decode cX3_comes 74 = .ok (.iadd, 1) := by decide +kernel
theorem dX3_comes_75 : decode cX3_comes 75 = .ok (.invokevirtual 45, 3) := by decide +kernel
theorem dX3_comes_78 : decode cX3_comes 78 = .ok (.invokevirtual 48, 3) := by decide +kernel
theorem dX3_comes_81 : decode cX3_comes 81 = .ok (.ireturn, 1) := by decide +kernel
theorem dX3_comes_82 : decode cX3_comes 82 = .ok (.aload_n 0, 1) := by decide +kernel
theorem dX3_comes_83 : decode cX3_comes 83 = .ok (.aload_n 0, 1) := by decide +kernel
theorem dX3_comes_84 : decode cX3_comes 84 = .ok (.iload_n 1, 1) := by decide +kernel
theorem dX3_comes_85 : decode cX3_comes 85 = .ok (.iconst 1, 1) := by decide +kernel
theorem dX3_comes_86 : decode cX3_comes 86 = .ok (.iadd, 1) := by decide +kernel
theorem dX3_comes_87 : decode cX3_comes 87 = .ok (.invokevirtual 52, 3) := by decide +kernel
theorem dX3_comes_90 : decode cX3_comes 90 = .ok (.aload_n 0, 1) := by decide +kernel
theorem dX3_comes_91 : decode cX3_comes 91 = .ok (.iload_n 1, 1) := by decide +kernel
theorem dX3_comes_92 : decode cX3_comes 92 = .ok (.iconst 3, 1) := by decide +kernel
theorem dX3_comes_93 : decode cX3_comes 93 = .ok (.iadd, 1) := by decide +kernel
theorem dX3_comes_94 : decode cX3_comes 94 = .ok (.invokevirtual 45, 3) := by decide +kernel
theorem dX3_comes_97 : decode cX3_comes 97 = .ok (.aload_n 0, 1) := by decide +kernel
theorem dX3_comes_98 : decode cX3_comes 98 = .ok (.iload_n 1, 1) := by decide +kernel
theorem dX3_comes_99 : decode cX3_comes 99 = .ok (.iconst 4, 1) := by decide +kernel
theorem dX3_comes_100 : decode cX3_comes 100 = .ok (.iadd, 1) := by decide +kernel
theorem dX3_comes_101 : decode cX3_comes 101 = .ok (.invokevirtual 45, 3) := by decide +kernel
theorem dX3_comes_104 : decode cX3_comes 104 = .ok (.invokevirtual 55, 3) := by decide +kernel
theorem dX3_comes_107 : decode cX3_comes 107 = .ok (.ireturn, 1) := by decide +kernel
theorem dX3_comes_108 : decode cX3_comes 108 = .ok (.aload_n 0, 1) := by decide +kernel
theorem dX3_comes_109 : decode cX3_comes 109 = .ok (.aload_n 0, 1) := by decide +kernel
theorem dX3_comes_110 : decode cX3_comes 110 = .ok (.iload_n 1, 1) := by decide +kernel
theorem dX3_comes_111 : decode cX3_comes 111 = .ok (.iconst 1, 1) := by decide +kernel
theorem dX3_comes_112 : decode cX3_comes 112 = .ok (.iadd, 1) := by decide +kernel
theorem dX3_comes_113 : decode cX3_comes 113 = .ok (.invokevirtual 45, 3) := by decide +kernel
theorem dX3_comes_116 : decode cX3_comes 116 = .ok (.aload_n 0, 1) := by decide +kernel
theorem dX3_comes_117 : decode cX3_comes 117 = .ok (.iload_n 1, 1) := by decide +kernel
theorem dX3_comes_118 : decode cX3_comes 118 = .ok (.iconst 2, 1) := by decide +kernel
theorem dX3_comes_119 : decode cX3_comes 119 = .ok (.iadd, 1) := by decide +kernel
theorem dX3_comes_120 : decode cX3_comes 120 = .ok (.invokevirtual 45, 3) := by decide +kernel
theorem dX3_comes_123 : decode cX3_comes 123 = .ok (.invokevirtual 58, 3) := by decide +kernel
theorem dX3_comes_126 : decode cX3_comes 126 = .ok (.ireturn, 1) := by decide +kernel
theorem dX3_comes_127 : decode cX3_comes 127 = .ok (.aload_n 0, 1) := by decide +kernel
theorem dX3_comes_128 : decode cX3_comes 128 = .ok (.aload_n 0, 1) := by decide +kernel
theorem dX3_comes_129 : decode cX3_comes 129 = .ok (.iload_n 1, 1) := by decide +kernel
theorem dX3_comes_130 : decode cX3_comes 130 = .ok (.iconst 1, 1) := by decide +kernel
theorem dX3_comes_131 : decode cX3_comes 131 = .ok (.iadd, 1) := by decide +kernel
theorem dX3_comes_132 : decode cX3_comes 132 = .ok (.invokevirtual 52, 3) := by decide +kernel
theorem dX3_comes_135 : decode cX3_comes 135 = .ok (.invokevirtual 62, 3) := by decide +kernel
theorem dX3_comes_138 : decode cX3_comes 138 = .ok (.ireturn, 1) := by decide +kernel
theorem dX3_comes_139 : decode cX3_comes 139 = .ok (.aload_n 0, 1) := by decide +kernel
theorem dX3_comes_140 : decode cX3_comes 140 = .ok (.aload_n 0, 1) := by decide +kernel
theorem dX3_comes_141 : decode cX3_comes 141 = .ok (.iload_n 1, 1) := by decide +kernel
theorem dX3_comes_142 : decode cX3_comes 142 = .ok (.iconst 1, 1) := by decide +kernel
theorem dX3_comes_143 : decode cX3_comes 143 = .ok (.iadd, 1) := by decide +kernel
theorem dX3_comes_144 : decode cX3_comes 144 = .ok (.invokevirtual 45, 3) := by decide +kernel
theorem dX3_comes_147 : decode cX3_comes 147 = .ok (.invokevirtual 65, 3) := by decide +kernel
theorem dX3_comes_150 : decode cX3_comes 150 = .ok (.ireturn, 1) := by decide +kernel
theorem dX3_comes_151 : decode cX3_comes 151 = .ok (.aload_n 0, 1) := by decide +kernel
theorem dX3_comes_152 : decode cX3_comes 152 = .ok (.iload_n 1, 1) := by decide +kernel
theorem dX3_comes_153 : decode cX3_comes 153 = .ok (.iconst 1, 1) := by decide +kernel
theorem dX3_comes_154 : decode cX3_comes 154 = .ok (.iadd, 1) := by decide +kernel
theorem dX3_comes_155 : decode cX3_comes 155 = .ok (.invokevirtual 45, 3) := by decide +kernel
theorem dX3_comes_158 : decode cX3_comes 158 = .ok (.istore_n 2, 1) := by decide +kernel
theorem dX3_comes_159 : decode cX3_comes 159 = .ok (.iload_n 2, 1) := by decide +kernel
theorem dX3_comes_160 : decode cX3_comes 160 = .ok (.iconst 1, 1) := by decide +kernel
theorem dX3_comes_161 : decode cX3_comes 161 = .ok (.if_icmp .gt 26, 3) := by decide +kernel
theorem dX3_comes_164 : decode cX3_comes 164 = .ok (.aload_n 0, 1) := by decide +kernel
theorem dX3_comes_165 : decode cX3_comes 165 = .ok (.getfield 15, 3) := by decide +kernel
theorem dX3_comes_168 : decode cX3_comes 168 = .ok (.invokevirtual 68, 3) := by decide +kernel
theorem dX3_comes_171 : decode cX3_comes 171 = .ok (.ifCond .ne 16, 3) := by decide +kernel
theorem dX3_comes_174 : decode cX3_comes 174 = .ok (.aload_n 0, 1) := by decide +kernel
theorem dX3_comes_175 : decode cX3_comes 175 = .ok (.getfield 15, 3) := by decide +kernel
theorem dX3_comes_178 : decode cX3_comes 178 = .ok (.getfield 71, 3) := by decide +kernel
theorem dX3_comes_181 : decode cX3_comes 181 = .ok (.sipush 999, 3) := by decide +kernel
theorem dX3_comes_184 : decode cX3_comes 184 = .ok (.if_icmp .lt 5, 3) := by decide +kernel
theorem dX3_comes_187 : decode cX3_comes 187 = .ok (.iconst 0, 1) := by decide +kernel
theorem dX3_comes_188 : decode cX3_comes 188 = .ok (.ireturn, 1) := by decide +kernel
theorem dX3_comes_189 : decode cX3_comes 189 = .ok (.aload_n 0, 1) := by decide +kernel
theorem dX3_comes_190 : decode cX3_comes 190 = .ok (.getfield 19, 3) := by decide +kernel
theorem dX3_comes_193 : decode cX3_comes 193 = .ok (.aload_n 0, 1) := by decide +kernel
theorem dX3_comes_194 : decode cX3_comes 194 = .ok (.getfield 15, 3) := by decide +kernel
theorem dX3_comes_197 : decode cX3_comes 197 = .ok (.iload_n 2, 1) := by decide +kernel
theorem dX3_comes_198 : decode cX3_comes 198 = .ok (.iconst 1, 1) := by decide +kernel
theorem dX3_comes_199 : decode cX3_comes 199 = .ok (.if_icmp .ne 7, 3) := by decide +kernel
theorem dX3_comes_202 : decode cX3_comes 202 = .ok (.iconst 1, 1) := by decide +kernel
theorem dX3_comes_203 : decode cX3_comes 203 = .ok (.goto 4, 3) := by decide +kernel
theorem dX3_comes_206 : decode cX3_comes 206 = .ok (.iconst 0, 1) := by decide +kernel
theorem dX3_comes_207 : decode cX3_comes 207 = .ok (.invokevirtual 74, 3) := by decide +kernel
theorem dX3_comes_210 : decode cX3_comes 210 = .ok (.iconst 1, 1) := by decide +kernel
theorem dX3_comes_211 : decode cX3_comes 211 = .ok (.ireturn, 1) := by decide +kernel
theorem dX3_personComes_0 : decode cX3_personComes 0 = .ok (.iload_n 1, 1) := by decide +kernel
theorem dX3_personComes_1 : decode cX3_personComes 1 = .ok (.bipush 6, 2) := by decide +kernel
theorem dX3_personComes_3 : decode cX3_personComes 3 = .ok (.if_icmp .ne 12, 3) := by decide +kernel
theorem dX3_personComes_6 : decode cX3_personComes 6 = .ok (.iload_n 3, 1) := by decide +kernel
theorem dX3_personComes_7 : decode cX3_personComes 7 = .ok (.iconst 1, 1) := by decide +kernel
theorem dX3_personComes_8 : decode cX3_personComes 8 = .ok (.if_icmp .ne 7, 3) := by decide +kernel
theorem dX3_personComes_11 : decode cX3_personComes 11 = .ok (.iconst 1, 1) := by decide +kernel
theorem dX3_personComes_12 : decode cX3_personComes 12 = .ok (.goto 4, 3) := by decide +kernel
theorem dX3_personComes_15 : decode cX3_personComes 15 = .ok (.iconst 0, 1) := by decide +kernel
theorem dX3_personComes_16 : decode cX3_personComes 16 = .ok (.istore 4, 2) := by decide +kernel
theorem dX3_personComes_18 : decode cX3_personComes 18 = .ok (.iload_n 1, 1) := by decide +kernel
theorem dX3_personComes_19 : decode cX3_personComes 19 = .ok (.bipush 6, 2) := by decide +kernel
theorem dX3_personComes_21 : decode cX3_personComes 21 = .ok (.if_icmp .gt 25, 3) := by decide +kernel
theorem dX3_personComes_24 : decode cX3_personComes 24 = .ok (.iload_n 3, 1) := by decide +kernel
theorem dX3_personComes_25 : decode cX3_personComes 25 = .ok (.iconst 1, 1) := by decide +kernel
theorem dX3_personComes_26 : decode cX3_personComes 26 = .ok (.if_icmp .gt 20, 3) := by decide +kernel
theorem dX3_personComes_29 : decode cX3_personComes 29 = .ok (.iload 4, 2) := by decide +kernel
theorem dX3_personComes_31 : decode cX3_personComes 31 = .ok (.ifCond .ne 15, 3) := by decide +kernel
theorem dX3_personComes_34 : decode cX3_personComes 34 = .ok (.aload_n 0, 1) := by decide +kernel
theorem dX3_personComes_35 : decode cX3_personComes 35 = .ok (.getfield 15, 3) := by decide +kernel
theorem dX3_personComes_38 : decode cX3_personComes 38 = .ok (.getfield 80, 3) := by decide +kernel
theorem dX3_personComes_41 : decode cX3_personComes 41 = .ok (.bipush 8, 2) := by decide +kernel
theorem dX3_personComes_43 : decode cX3_personComes 43 = .ok (.if_icmp .lt 5, 3) := by decide +kernel
theorem dX3_personComes_46 : decode cX3_personComes 46 = .ok (.iconst 0, 1) := by decide +kernel
theorem dX3_personComes_47 : decode cX3_personComes 47 = .ok (.ireturn, 1) := by decide +kernel
theorem dX3_personComes_48 : decode cX3_personComes 48 = .ok (.aload_n 0, 1) := by decide +kernel
theorem dX3_personComes_49 : decode cX3_personComes 49 = .ok (.getfield 15, 3) := by decide +kernel
theorem dX3_personComes_52 : decode cX3_personComes 52 = .ok (.iload_n 1, 1) := by decide +kernel
theorem dX3_personComes_53 : decode cX3_personComes 53 = .ok (.iload_n 2, 1) := by decide +kernel
theorem dX3_personComes_54 : decode cX3_personComes 54 = .ok (.iload_n 3, 1) := by decide +kernel
theorem dX3_personComes_55 : decode cX3_personComes 55 = .ok (.iconst 1, 1) := by decide +kernel
theorem dX3_personComes_56 : decode cX3_personComes 56 = .ok (.if_icmp .ne 7, 3) := by decide +kernel
theorem dX3_personComes_59 : decode cX3_personComes 59 = .ok (.iconst 1, 1) := by decide +kernel
theorem dX3_personComes_60 : decode cX3_personComes 60 = .ok (.goto 4, 3) := by decide +kernel
theorem dX3_personComes_63 : decode cX3_personComes 63 = .ok (.iconst 0, 1) := by decide +kernel
theorem dX3_personComes_64 : decode cX3_personComes 64 = .ok (.invokevirtual 83, 3) := by decide +kernel
theorem dX3_personComes_67 : decode cX3_personComes 67 = .ok (.iconst 1, 1) := by decide +kernel
theorem dX3_personComes_68 : decode cX3_personComes 68 = .ok (.ireturn, 1) := by decide +kernel
theorem dX3_windComes_0 : decode cX3_windComes 0 = .ok (.iload_n 1, 1) := by decide +kernel
theorem dX3_windComes_1 : decode cX3_windComes 1 = .ok (.bipush 24, 2) := by decide +kernel
theorem dX3_windComes_3 : decode cX3_windComes 3 = .ok (.invokestatic 87, 3) := by decide +kernel
theorem dX3_windComes_6 : decode cX3_windComes 6 = .ok (.ifCond .ne 8, 3) := by decide +kernel
theorem dX3_windComes_9 : decode cX3_windComes 9 = .ok (.iload_n 3, 1) := by decide +kernel
theorem dX3_windComes_10 : decode cX3_windComes 10 = .ok (.iconst 2, 1) := by decide +kernel
theorem dX3_windComes_11 : decode cX3_windComes 11 = .ok (.if_icmp .le 5, 3) := by decide +kernel
theorem dX3_windComes_14 : decode cX3_windComes 14 = .ok (.iconst 0, 1) := by decide +kernel
theorem dX3_windComes_15 : decode cX3_windComes 15 = .ok (.ireturn, 1) := by decide +kernel
theorem dX3_windComes_16 : decode cX3_windComes 16 = .ok (.aload_n 0, 1) := by decide +kernel
theorem dX3_windComes_17 : decode cX3_windComes 17 = .ok (.getfield 15, 3) := by decide +kernel
theorem dX3_windComes_20 : decode cX3_windComes 20 = .ok (.getfield 90, 3) := by decide +kernel
theorem dX3_windComes_23 : decode cX3_windComes 23 = .ok (.iload_n 1, 1) := by decide +kernel
theorem dX3_windComes_24 : decode cX3_windComes 24 = .ok (.iload_n 2, 1) := by decide +kernel
theorem dX3_windComes_25 : decode cX3_windComes 25 = .ok (.iastore, 1) := by decide +kernel
theorem dX3_windComes_26 : decode cX3_windComes 26 = .ok (.aload_n 0, 1) := by decide +kernel
theorem dX3_windComes_27 : decode cX3_windComes 27 = .ok (.getfield 15, 3) := by decide +kernel
theorem dX3_windComes_30 : decode cX3_windComes 30 = .ok (.getfield 93, 3) := by decide +kernel
theorem dX3_windComes_33 : decode cX3_windComes 33 = .ok (.iload_n 1, 1) := by decide +kernel
theorem dX3_windComes_34 : decode cX3_windComes 34 = .ok (.iload_n 3, 1) := by decide +kernel
theorem dX3_windComes_35 : decode cX3_windComes 35 = .ok (.iastore, 1) := by decide +kernel
theorem dX3_windComes_36 : decode cX3_windComes 36 = .ok (.iconst 1, 1) := by decide +kernel
theorem dX3_windComes_37 : decode cX3_windComes 37 = .ok (.ireturn, 1) := by decide +kernel
theorem dX3_formComes_0 : decode cX3_formComes 0 = .ok (.iload_n 1, 1) := by decide +kernel
theorem dX3_formComes_1 : decode cX3_formComes 1 = .ok (.iconst 2, 1) := by decide +kernel
theorem dX3_formComes_2 : decode cX3_formComes 2 = .ok (.if_icmp .gt 13, 3) := by decide +kernel
theorem dX3_formComes_5 : decode cX3_formComes 5 = .ok (.iload_n 2, 1) := by decide +kernel
theorem dX3_formComes_6 : decode cX3_formComes 6 = .ok (.iconst 1, 1) := by decide +kernel
theorem dX3_formComes_7 : decode cX3_formComes 7 = .ok (.if_icmp .lt 8, 3) := by decide +kernel
theorem dX3_formComes_10 : decode cX3_formComes 10 = .ok (.iload_n 2, 1) := by decide +kernel
theorem dX3_formComes_11 : decode cX3_formComes 11 = .ok (.iconst 2, 1) := by decide +kernel
theorem dX3_formComes_12 : decode cX3_formComes 12 = .ok (.if_icmp .le 5, 3) := by decide +kernel
theorem dX3_formComes_15 : decode cX3_formComes 15 = .ok (.iconst 0, 1) := by decide +kernel
theorem dX3_formComes_16 : decode cX3_formComes 16 = .ok (.ireturn, 1) := by decide +kernel
theorem dX3_formComes_17 : decode cX3_formComes 17 = .ok (.aload_n 0, 1) := by decide +kernel
theorem dX3_formComes_18 : decode cX3_formComes 18 = .ok (.getfield 15, 3) := by decide +kernel
theorem dX3_formComes_21 : decode cX3_formComes 21 = .ok (.iload_n 1, 1) := by decide +kernel
theorem dX3_formComes_22 : decode cX3_formComes 22 = .ok (.putfield 96, 3) := by decide +kernel
theorem dX3_formComes_25 : decode cX3_formComes 25 = .ok (.aload_n 0, 1) := by decide +kernel
theorem dX3_formComes_26 : decode cX3_formComes 26 = .ok (.getfield 15, 3) := by decide +kernel
theorem dX3_formComes_29 : decode cX3_formComes 29 = .ok (.iload_n 2, 1) := by decide +kernel
theorem dX3_formComes_30 : decode cX3_formComes 30 = .ok (.putfield 99, 3) := by decide +kernel
theorem dX3_formComes_33 : decode cX3_formComes 33 = .ok (.iconst 1, 1) := by decide +kernel
theorem dX3_formComes_34 : decode cX3_formComes 34 = .ok (.ireturn, 1) := by decide +kernel
theorem dX3_doorComes_0 : decode cX3_doorComes 0 = .ok (.iload_n 1, 1) := by decide +kernel
theorem dX3_doorComes_1 : decode cX3_doorComes 1 = .ok (.iconst 1, 1) := by decide +kernel
theorem dX3_doorComes_2 : decode cX3_doorComes 2 = .ok (.if_icmp .lt 20, 3) := by decide +kernel
theorem dX3_doorComes_5 : decode cX3_doorComes 5 = .ok (.iload_n 1, 1) := by decide +kernel
theorem dX3_doorComes_6 : decode cX3_doorComes 6 = .ok (.bipush 24, 2) := by decide +kernel
theorem dX3_doorComes_8 : decode cX3_doorComes 8 = .ok (.if_icmp .gt 14, 3) := by decide +kernel
theorem dX3_doorComes_11 : decode cX3_doorComes 11 = .ok (.iload_n 1, 1) := by decide +kernel
theorem dX3_doorComes_12 : decode cX3_doorComes 12 = .ok (.aload_n 0, 1) := by decide +kernel
theorem dX3_doorComes_13 : decode cX3_doorComes 13 = .ok (.getfield 15, 3) := by decide +kernel
theorem dX3_doorComes_16 : decode cX3_doorComes 16 = .ok (.getfield 102, 3) := by decide +kernel
theorem dX3_doorComes_19 : decode cX3_doorComes 19 = .ok (.if_icmp .ge 5, 3) := by decide +kernel
theorem dX3_doorComes_22 : decode cX3_doorComes 22 = .ok (.iconst 0, 1) := by decide +kernel
theorem dX3_doorComes_23 : decode cX3_doorComes 23 = .ok (.ireturn, 1) := by decide +kernel
theorem dX3_doorComes_24 : decode cX3_doorComes 24 = .ok (.aload_n 0, 1) := by decide +kernel
theorem dX3_doorComes_25 : decode cX3_doorComes 25 = .ok (.getfield 15, 3) := by decide +kernel
theorem dX3_doorComes_28 : decode cX3_doorComes 28 = .ok (.iload_n 1, 1) := by decide +kernel
theorem dX3_doorComes_29 : decode cX3_doorComes 29 = .ok (.putfield 105, 3) := by decide +kernel
theorem dX3_doorComes_32 : decode cX3_doorComes 32 = .ok (.iconst 1, 1) := by decide +kernel
theorem dX3_doorComes_33 : decode cX3_doorComes 33 = .ok (.ireturn, 1) := by decide +kernel
theorem dX3_lightComes_0 : decode cX3_lightComes 0 = .ok (.aload_n 0, 1) := by decide +kernel
theorem dX3_lightComes_1 : decode cX3_lightComes 1 = .ok (.getfield 15, 3) := by decide +kernel
theorem dX3_lightComes_4 : decode cX3_lightComes 4 = .ok (.iload_n 1, 1) := by decide +kernel
theorem dX3_lightComes_5 : decode cX3_lightComes 5 = .ok (.invokevirtual 108, 3) := by decide +kernel
theorem dX3_lightComes_8 : decode cX3_lightComes 8 = .ok (.ifCond .eq 14, 3) := by decide +kernel
theorem dX3_lightComes_11 : decode cX3_lightComes 11 = .ok (.aload_n 0, 1) := by decide +kernel
theorem dX3_lightComes_12 : decode cX3_lightComes 12 = .ok (.getfield 15, 3) := by decide +kernel
theorem dX3_lightComes_15 : decode cX3_lightComes 15 = .ok (.iload_n 1, 1) := by decide +kernel
theorem dX3_lightComes_16 : decode cX3_lightComes 16 = .ok (.invokevirtual 111, 3) := by decide +kernel
theorem dX3_lightComes_19 : decode cX3_lightComes 19 = .ok (.ifCond .eq 5, 3) := by decide +kernel
theorem dX3_lightComes_22 : decode cX3_lightComes 22 = .ok (.iconst 0, 1) := by decide +kernel
theorem dX3_lightComes_23 : decode cX3_lightComes 23 = .ok (.ireturn, 1) := by decide +kernel
theorem dX3_lightComes_24 : decode cX3_lightComes 24 = .ok (.aload_n 0, 1) := by decide +kernel
theorem dX3_lightComes_25 : decode cX3_lightComes 25 = .ok (.getfield 15, 3) := by decide +kernel
theorem dX3_lightComes_28 : decode cX3_lightComes 28 = .ok (.iload_n 1, 1) := by decide +kernel
theorem dX3_lightComes_29 : decode cX3_lightComes 29 = .ok (.aload_n 0, 1) := by decide +kernel
theorem dX3_lightComes_30 : decode cX3_lightComes 30 = .ok (.getfield 15, 3) := by decide +kernel
theorem dX3_lightComes_33 : decode cX3_lightComes 33 = .ok (.iload_n 1, 1) := by decide +kernel
theorem dX3_lightComes_34 : decode cX3_lightComes 34 = .ok (.invokevirtual 114, 3) := by decide +kernel
theorem dX3_lightComes_37 : decode cX3_lightComes 37 = .ok (.ifCond .ne 7, 3) := by decide +kernel
theorem dX3_lightComes_40 : decode cX3_lightComes 40 = .ok (.iconst 1, 1) := by decide +kernel
theorem dX3_lightComes_41 : decode cX3_lightComes 41 = .ok (.goto 4, 3) := by decide +kernel
theorem dX3_lightComes_44 : decode cX3_lightComes 44 = .ok (.iconst 0, 1) := by decide +kernel
theorem dX3_lightComes_45 : decode cX3_lightComes 45 = .ok (.invokevirtual 117, 3) := by decide +kernel
theorem dX3_lightComes_48 : decode cX3_lightComes 48 = .ok (.iconst 1, 1) := by decide +kernel
theorem dX3_lightComes_49 : decode cX3_lightComes 49 = .ok (.ireturn, 1) := by decide +kernel
theorem dX4_init_0 : decode cX4_init 0 = .ok (.aload_n 0, 1) := by decide +kernel
theorem dX4_init_1 : decode cX4_init 1 = .ok (.invokespecial 3, 3) := by decide +kernel
theorem dX4_init_4 : decode cX4_init 4 = .ok (.aload_n 0, 1) := by decide +kernel
theorem dX4_init_5 : decode cX4_init 5 = .ok (.aload_n 1, 1) := by decide +kernel
theorem dX4_init_6 : decode cX4_init 6 = .ok (.putfield 9, 3) := by decide +kernel
theorem dX4_init_9 : decode cX4_init 9 = .ok (.aload_n 0, 1) := by decide +kernel
theorem dX4_init_10 : decode cX4_init 10 = .ok (.aload_n 2, 1) := by decide +kernel
theorem dX4_init_11 : decode cX4_init 11 = .ok (.putfield 15, 3) := by decide +kernel
theorem dX4_init_14 : decode cX4_init 14 = .ok (.aload_n 0, 1) := by decide +kernel
theorem dX4_init_15 : decode cX4_init 15 = .ok (.bipush 8, 2) := by decide +kernel
theorem dX4_init_17 : decode cX4_init 17 = .ok (.newarray .int, 2) := by decide +kernel
theorem dX4_init_19 : decode cX4_init 19 = .ok (.putfield 19, 3) := by decide +kernel
theorem dX4_init_22 : decode cX4_init 22 = .ok (.return_, 1) := by decide +kernel
theorem dX4_litBehind_0 : decode cX4_litBehind 0 = .ok (.aload_n 0, 1) := by decide +kernel
theorem dX4_litBehind_1 : decode cX4_litBehind 1 = .ok (.invokevirtual 23, 3) := by decide +kernel
theorem dX4_litBehind_4 : decode cX4_litBehind 4 = .ok (.aload_n 0, 1) := by decide +kernel
theorem dX4_litBehind_5 : decode cX4_litBehind 5 = .ok (.getfield 15, 3) := by decide +kernel
theorem dX4_litBehind_8 : decode cX4_litBehind 8 = .ok (.getfield 26, 3) := by decide +kernel
theorem dX4_litBehind_11 : decode cX4_litBehind 11 = .ok (.iload_n 1, 1) := by decide +kernel
theorem dX4_litBehind_12 : decode cX4_litBehind 12 = .ok (.aload_n 0, 1) := by decide +kernel
theorem dX4_litBehind_13 : decode cX4_litBehind 13 = .ok (.getfield 15, 3) := by decide +kernel
theorem dX4_litBehind_16 : decode cX4_litBehind 16 = .ok (.getfield 31, 3) := by decide +kernel
theorem dX4_litBehind_19 : decode cX4_litBehind 19 = .ok (.invokestatic 35, 3) := by decide +kernel
theorem dX4_litBehind_22 : decode cX4_litBehind 22 = .ok (.iaload, 1) := by decide +kernel
theorem dX4_litBehind_23 : decode cX4_litBehind 23 = .ok (.ireturn, 1) := by decide +kernel
theorem dX4_firstDark_0 : decode cX4_firstDark 0 = .ok (.aload_n 0, 1) := by decide +kernel
theorem dX4_firstDark_1 : decode cX4_firstDark 1 = .ok (.invokevirtual 23, 3) := by decide +kernel
theorem dX4_firstDark_4 : decode cX4_firstDark 4 = .ok (.iconst 0, 1) := by decide +kernel
theorem dX4_firstDark_5 : decode cX4_firstDark 5 = .ok (.istore_n 1, 1) := by decide +kernel
theorem dX4_firstDark_6 : decode cX4_firstDark 6 = .ok (.iload_n 1, 1) := by decide +kernel
theorem dX4_firstDark_7 : decode cX4_firstDark 7 = .ok (.aload_n 0, 1) := by decide +kernel
theorem dX4_firstDark_8 : decode cX4_firstDark 8 = .ok (.getfield 15, 3) := by decide +kernel
theorem dX4_firstDark_11 : decode cX4_firstDark 11 = .ok (.getfield 31, 3) := by decide +kernel
theorem dX4_firstDark_14 : decode cX4_firstDark 14 = .ok (.if_icmp .gt 23, 3) := by decide +kernel
theorem dX4_firstDark_17 : decode cX4_firstDark 17 = .ok (.aload_n 0, 1) := by decide +kernel
theorem dX4_firstDark_18 : decode cX4_firstDark 18 = .ok (.getfield 15, 3) := by decide +kernel
theorem dX4_firstDark_21 : decode cX4_firstDark 21 = .ok (.getfield 26, 3) := by decide +kernel
theorem dX4_firstDark_24 : decode cX4_firstDark 24 = .ok (.iload_n 1, 1) := by decide +kernel
theorem dX4_firstDark_25 : decode cX4_firstDark 25 = .ok (.iaload, 1) := by decide +kernel
theorem dX4_firstDark_26 : decode cX4_firstDark 26 = .ok (.ifCond .ne 5, 3) := by decide +kernel
theorem dX4_firstDark_29 : decode cX4_firstDark 29 = .ok (.iload_n 1, 1) := by decide +kernel
theorem dX4_firstDark_30 : decode cX4_firstDark 30 = .ok (.ireturn, 1) := by decide +kernel
theorem dX4_firstDark_31 : decode cX4_firstDark 31 = .ok (.iinc 1 1, 3) := by decide +kernel
theorem dX4_firstDark_34 : decode cX4_firstDark 34 = .ok (.goto (-28), 3) := by decide +kernel
theorem dX4_firstDark_37 : decode cX4_firstDark 37 = .ok (.bipush (-9), 2) := by decide +kernel
theorem dX4_firstDark_39 : decode cX4_firstDark 39 = .ok (.ireturn, 1) := by decide +kernel
theorem dX4_longestDark_0 : decode cX4_longestDark 0 = .ok (.aload_n 0, 1) := by decide +kernel
theorem dX4_longestDark_1 : decode cX4_longestDark 1 = .ok (.invokevirtual 23, 3) := by decide +kernel
theorem dX4_longestDark_4 : decode cX4_longestDark 4 = .ok (.iconst 0, 1) := by decide +kernel
theorem dX4_longestDark_5 : decode cX4_longestDark 5 = .ok (.istore_n 1, 1) := by decide +kernel
theorem dX4_longestDark_6 : decode cX4_longestDark 6 = .ok (.iconst 0, 1) := by decide +kernel
theorem dX4_longestDark_7 : decode cX4_longestDark 7 = .ok (.istore_n 2, 1) := by decide +kernel
theorem dX4_longestDark_8 : decode cX4_longestDark 8 = .ok (.iconst 1, 1) := by decide +kernel
theorem dX4_longestDark_9 : decode cX4_longestDark 9 = .ok (.istore_n 3, 1) := by decide +kernel
theorem dX4_longestDark_10 : decode cX4_longestDark 10 = .ok (.iload_n 3, 1) := by decide +kernel
theorem dX4_longestDark_11 : decode cX4_longestDark 11 = .ok (.aload_n 0, 1) := by decide +kernel
theorem dX4_longestDark_12 : decode cX4_longestDark 12 = .ok (.getfield 15, 3) := by decide +kernel
theorem dX4_longestDark_15 : decode cX4_longestDark 15 = .ok (.getfield 31, 3) := by decide +kernel
theorem dX4_longestDark_18 : decode cX4_longestDark 18 = .ok (.if_icmp .gt 35, 3) := by decide +kernel
theorem dX4_longestDark_21 : decode cX4_longestDark 21 = .ok (.aload_n 0, 1) := by decide +kernel
theorem dX4_longestDark_22 : decode cX4_longestDark 22 = .ok (.getfield 15, 3) := by decide +kernel
theorem dX4_longestDark_25 : decode cX4_longestDark 25 = .ok (.getfield 26, 3) := by decide +kernel
theorem dX4_longestDark_28 : decode cX4_longestDark 28 = .ok (.iload_n 3, 1) := by decide +kernel
theorem dX4_longestDark_29 : decode cX4_longestDark 29 = .ok (.iaload, 1) := by decide +kernel
theorem dX4_longestDark_30 : decode cX4_longestDark 30 = .ok (.ifCond .ne 9, 3) := by decide +kernel
theorem dX4_longestDark_33 : decode cX4_longestDark 33 = .ok (.iload_n 2, 1) := by decide +kernel
theorem dX4_longestDark_34 : decode cX4_longestDark 34 = .ok (.iconst 1, 1) := by decide +kernel
theorem dX4_longestDark_35 : decode cX4_longestDark 35 = .ok (.iadd, 1) := by decide +kernel
theorem dX4_longestDark_36 : decode cX4_longestDark 36 = .ok (.goto 4, 3) := by decide +kernel
theorem dX4_longestDark_39 : decode cX4_longestDark 39 = .ok (.iconst 0, 1) := by decide +kernel
theorem dX4_longestDark_40 : decode cX4_longestDark 40 = .ok (.istore_n 2, 1) := by decide +kernel
theorem dX4_longestDark_41 : decode cX4_longestDark 41 = .ok (.iload_n 1, 1) := by decide +kernel
theorem dX4_longestDark_42 : decode cX4_longestDark 42 = .ok (.iload_n 2, 1) := by decide +kernel
theorem dX4_longestDark_43 : decode cX4_longestDark 43 = .ok (.invokestatic 41, 3) := by decide +kernel
theorem dX4_longestDark_46 : decode cX4_longestDark 46 = .ok (.istore_n 1, 1) := by decide +kernel
theorem dX4_longestDark_47 : decode cX4_longestDark 47 = .ok (.iinc 3 1, 3) := by decide +kernel
theorem dX4_longestDark_50 : decode cX4_longestDark 50 = .ok (.goto (-40), 3) := by decide +kernel
theorem dX4_longestDark_53 : decode cX4_longestDark 53 = .ok (.iload_n 1, 1) := by decide +kernel
theorem dX4_longestDark_54 : decode cX4_longestDark 54 = .ok (.ireturn, 1) := by decide +kernel
theorem dX4_darkMinutes_0 : decode cX4_darkMinutes 0 = .ok (.aload_n 0, 1) := by decide +kernel
theorem dX4_darkMinutes_1 : decode cX4_darkMinutes 1 = .ok (.invokevirtual 23, 3) := by decide +kernel
theorem dX4_darkMinutes_4 : decode cX4_darkMinutes 4 = .ok (.aload_n 0, 1) := by decide +kernel
theorem dX4_darkMinutes_5 : decode cX4_darkMinutes 5 = .ok (.iload_n 1, 1) := by decide +kernel
theorem dX4_darkMinutes_6 : decode cX4_darkMinutes 6 = .ok (.invokevirtual 44, 3) := by decide +kernel
theorem dX4_darkMinutes_9 : decode cX4_darkMinutes 9 = .ok (.ireturn, 1) := by decide +kernel
theorem dX4_lastLighter_0 : decode cX4_lastLighter 0 = .ok (.aload_n 0, 1) := by decide +kernel
theorem dX4_lastLighter_1 : decode cX4_lastLighter 1 = .ok (.getfield 15, 3) := by decide +kernel
theorem dX4_lastLighter_4 : decode cX4_lastLighter 4 = .ok (.aload_n 0, 1) := by decide +kernel
theorem dX4_lastLighter_5 : decode cX4_lastLighter 5 = .ok (.getfield 9, 3) := by decide +kernel
theorem dX4_lastLighter_8 : decode cX4_lastLighter 8 = .ok (.invokevirtual 48, 3) := by decide +kernel
theorem dX4_lastLighter_11 : decode cX4_lastLighter 11 = .ok (.bipush (-9), 2) := by decide +kernel
theorem dX4_lastLighter_13 : decode cX4_lastLighter 13 = .ok (.istore_n 3, 1) := by decide +kernel
theorem dX4_lastLighter_14 : decode cX4_lastLighter 14 = .ok (.aload_n 0, 1) := by decide +kernel
theorem dX4_lastLighter_15 : decode cX4_lastLighter 15 = .ok (.getfield 9, 3) := by decide +kernel
theorem dX4_lastLighter_18 : decode cX4_lastLighter 18 = .ok (.getfield 52, 3) := by decide +kernel
theorem dX4_lastLighter_21 : decode cX4_lastLighter 21 = .ok (.istore 4, 2) := by decide +kernel
theorem dX4_lastLighter_23 : decode cX4_lastLighter 23 = .ok (.iload_n 2, 1) := by decide +kernel
theorem dX4_lastLighter_24 : decode cX4_lastLighter 24 = .ok (.aload_n 0, 1) := by decide +kernel
theorem dX4_lastLighter_25 : decode cX4_lastLighter 25 = .ok (.getfield 15, 3) := by decide +kernel
theorem dX4_lastLighter_28 : decode cX4_lastLighter 28 = .ok (.getfield 31, 3) := by decide +kernel
theorem dX4_lastLighter_31 : decode cX4_lastLighter 31 = .ok (.invokestatic 35, 3) := by decide +kernel
theorem dX4_lastLighter_34 : decode cX4_lastLighter 34 = .ok (.istore 5, 2) := by decide +kernel
theorem dX4_lastLighter_36 : decode cX4_lastLighter 36 = .ok (.iconst 0, 1) := by decide +kernel
theorem dX4_lastLighter_37 : decode cX4_lastLighter 37 = .ok (.istore 6, 2) := by decide +kernel
theorem dX4_lastLighter_39 : decode cX4_lastLighter 39 = .ok (.iload 6, 2) := by decide +kernel
theorem dX4_lastLighter_41 : decode cX4_lastLighter 41 = .ok (.iload 5, 2) := by decide +kernel
theorem dX4_lastLighter_43 : decode cX4_lastLighter 43 = .ok (.if_icmp .ge 54, 3) := by decide +kernel
theorem dX4_lastLighter_46 : decode cX4_lastLighter 46 = .ok (.aload_n 0, 1) := by decide +kernel
theorem dX4_lastLighter_47 : decode cX4_lastLighter 47 = .ok (.getfield 15, 3) := by decide +kernel
theorem dX4_lastLighter_50 : decode cX4_lastLighter 50 = .ok (.aload_n 0, 1) := by decide +kernel
theorem dX4_lastLighter_51 : decode cX4_lastLighter 51 = .ok (.getfield 15, 3) := by decide +kernel
theorem dX4_lastLighter_54 : decode cX4_lastLighter 54 = .ok (.getfield 57, 3) := by decide +kernel
theorem dX4_lastLighter_57 : decode cX4_lastLighter 57 = .ok (.iload 6, 2) := by decide +kernel
theorem dX4_lastLighter_59 : decode cX4_lastLighter 59 = .ok (.iadd, 1) := by decide +kernel
theorem dX4_lastLighter_60 : decode cX4_lastLighter 60 = .ok (.iload 4, 2) := by decide +kernel
theorem dX4_lastLighter_62 : decode cX4_lastLighter 62 = .ok (.invokevirtual 60, 3) := by decide +kernel
theorem dX4_lastLighter_65 : decode cX4_lastLighter 65 = .ok (.istore 4, 2) := by decide +kernel
theorem dX4_lastLighter_67 : decode cX4_lastLighter 67 = .ok (.aload_n 0, 1) := by decide +kernel
theorem dX4_lastLighter_68 : decode cX4_lastLighter 68 = .ok (.getfield 15, 3) := by decide +kernel
theorem dX4_lastLighter_71 : decode cX4_lastLighter 71 = .ok (.getfield 63, 3) := by decide +kernel
theorem dX4_lastLighter_74 : decode cX4_lastLighter 74 = .ok (.iload_n 1, 1) := by decide +kernel
theorem dX4_lastLighter_75 : decode cX4_lastLighter 75 = .ok (.invokestatic 66, 3) := by decide +kernel
theorem dX4_lastLighter_78 : decode cX4_lastLighter 78 = .ok (.ifCond .eq 13, 3) := by decide +kernel
theorem dX4_lastLighter_81 : decode cX4_lastLighter 81 = .ok (.aload_n 0, 1) := by decide +kernel
theorem dX4_lastLighter_82 : decode cX4_lastLighter 82 = .ok (.getfield 15, 3) := by decide +kernel
theorem dX4_lastLighter_85 : decode cX4_lastLighter 85 = .ok (.getfield 70, 3) := by decide +kernel
theorem dX4_lastLighter_88 : decode cX4_lastLighter 88 = .ok (.iload_n 1, 1) := by decide +kernel
theorem dX4_lastLighter_89 : decode cX4_lastLighter 89 = .ok (.iaload, 1) := by decide +kernel
theorem dX4_lastLighter_90 : decode cX4_lastLighter 90 = .ok (.istore_n 3, 1) := by decide +kernel
theorem dX4_lastLighter_91 : decode cX4_lastLighter 91 = .ok (.iinc 6 1, 3) := by decide +kernel
theorem dX4_lastLighter_94 : decode cX4_lastLighter 94 = .ok (.goto (-55), 3) := by decide +kernel
theorem dX4_lastLighter_97 : decode cX4_lastLighter 97 = .ok (.iload_n 3, 1) := by decide +kernel
theorem dX4_lastLighter_98 : decode cX4_lastLighter 98 = .ok (.ireturn, 1) := by decide +kernel
theorem dX4_originOf_0 : decode cX4_originOf 0 = .ok (.aload_n 0, 1) := by decide +kernel
theorem dX4_originOf_1 : decode cX4_originOf 1 = .ok (.getfield 15, 3) := by decide +kernel
theorem dX4_originOf_4 : decode cX4_originOf 4 = .ok (.aload_n 0, 1) := by decide +kernel
theorem dX4_originOf_5 : decode cX4_originOf 5 = .ok (.getfield 9, 3) := by decide +kernel
theorem dX4_originOf_8 : decode cX4_originOf 8 = .ok (.invokevirtual 48, 3) := by decide +kernel
theorem dX4_originOf_11 : decode cX4_originOf 11 = .ok (.iconst 0, 1) := by decide +kernel
theorem dX4_originOf_12 : decode cX4_originOf 12 = .ok (.istore_n 2, 1) := by decide +kernel
theorem dX4_originOf_13 : decode cX4_originOf 13 = .ok (.iload_n 2, 1) := by decide +kernel
theorem dX4_originOf_14 : decode cX4_originOf 14 = .ok (.bipush 8, 2) := by decide +kernel
theorem dX4_originOf_16 : decode cX4_originOf 16 = .ok (.if_icmp .ge 16, 3) := by decide +kernel
theorem dX4_originOf_19 : decode cX4_originOf 19 = .ok (.aload_n 0, 1) := by decide +kernel
theorem dX4_originOf_20 : decode cX4_originOf 20 = .ok (.getfield 19, 3) := by decide +kernel
theorem dX4_originOf_23 : decode cX4_originOf 23 = .ok (.iload_n 2, 1) := by decide +kernel
theorem dX4_originOf_24 : decode cX4_originOf 24 = .ok (.iload_n 2, 1) := by decide +kernel
theorem dX4_originOf_25 : decode cX4_originOf 25 = .ok (.iastore, 1) := by decide +kernel
theorem dX4_originOf_26 : decode cX4_originOf 26 = .ok (.iinc 2 1, 3) := by decide +kernel
theorem dX4_originOf_29 : decode cX4_originOf 29 = .ok (.goto (-16), 3) := by decide +kernel
theorem dX4_originOf_32 : decode cX4_originOf 32 = .ok (.aload_n 0, 1) := by decide +kernel
theorem dX4_originOf_33 : decode cX4_originOf 33 = .ok (.getfield 9, 3) := by decide +kernel
theorem dX4_originOf_36 : decode cX4_originOf 36 = .ok (.getfield 52, 3) := by decide +kernel
theorem dX4_originOf_39 : decode cX4_originOf 39 = .ok (.istore_n 2, 1) := by decide +kernel
theorem dX4_originOf_40 : decode cX4_originOf 40 = .ok (.iconst 0, 1) := by decide +kernel
theorem dX4_originOf_41 : decode cX4_originOf 41 = .ok (.istore_n 3, 1) := by decide +kernel
theorem dX4_originOf_42 : decode cX4_originOf 42 = .ok (.iload_n 3, 1) := by decide +kernel
theorem dX4_originOf_43 : decode cX4_originOf 43 = .ok (.aload_n 0, 1) := by decide +kernel
theorem dX4_originOf_44 : decode cX4_originOf 44 = .ok (.getfield 15, 3) := by decide +kernel
theorem dX4_originOf_47 : decode cX4_originOf 47 = .ok (.getfield 31, 3) := by decide +kernel
theorem dX4_originOf_50 : decode cX4_originOf 50 = .ok (.if_icmp .ge 38, 3) := by decide +kernel
theorem dX4_originOf_53 : decode cX4_originOf 53 = .ok (.aload_n 0, 1) := by decide +kernel
theorem dX4_originOf_54 : decode cX4_originOf 54 = .ok (.getfield 15, 3) := by decide +kernel
theorem dX4_originOf_57 : decode cX4_originOf 57 = .ok (.aload_n 0, 1) := by decide +kernel
theorem dX4_originOf_58 : decode cX4_originOf 58 = .ok (.getfield 15, 3) := by decide +kernel
theorem dX4_originOf_61 : decode cX4_originOf 61 = .ok (.getfield 57, 3) := by decide +kernel
theorem dX4_originOf_64 : decode cX4_originOf 64 = .ok (.iload_n 3, 1) := by decide +kernel
theorem dX4_originOf_65 : decode cX4_originOf 65 = .ok (.iadd, 1) := by decide +kernel
theorem dX4_originOf_66 : decode cX4_originOf 66 = .ok (.iload_n 2, 1) := by decide +kernel
theorem dX4_originOf_67 : decode cX4_originOf 67 = .ok (.invokevirtual 60, 3) := by decide +kernel
theorem dX4_originOf_70 : decode cX4_originOf 70 = .ok (.istore_n 2, 1) := by decide +kernel
theorem dX4_originOf_71 : decode cX4_originOf 71 = .ok (.aload_n 0, 1) := by decide +kernel
theorem dX4_originOf_72 : decode cX4_originOf 72 = .ok (.aload_n 0, 1) := by decide +kernel
theorem dX4_originOf_73 : decode cX4_originOf 73 = .ok (.getfield 15, 3) := by decide +kernel
theorem dX4_originOf_76 : decode cX4_originOf 76 = .ok (.getfield 63, 3) := by decide +kernel
theorem dX4_originOf_79 : decode cX4_originOf 79 = .ok (.invokevirtual 73, 3) := by decide +kernel
theorem dX4_originOf_82 : decode cX4_originOf 82 = .ok (.iinc 3 1, 3) := by decide +kernel
theorem dX4_originOf_85 : decode cX4_originOf 85 = .ok (.goto (-43), 3) := by decide +kernel
theorem dX4_originOf_88 : decode cX4_originOf 88 = .ok (.iload_n 2, 1) := by decide +kernel
theorem dX4_originOf_89 : decode cX4_originOf 89 = .ok (.iload_n 1, 1) := by decide +kernel
theorem dX4_originOf_90 : decode cX4_originOf 90 = .ok (.invokestatic 66, 3) := by decide +kernel
theorem dX4_originOf_93 : decode cX4_originOf 93 = .ok (.ifCond .eq 12, 3) := by decide +kernel
theorem dX4_originOf_96 : decode cX4_originOf 96 = .ok (.aload_n 0, 1) := by decide +kernel
theorem dX4_originOf_97 : decode cX4_originOf 97 = .ok (.getfield 19, 3) := by decide +kernel
theorem dX4_originOf_100 : decode cX4_originOf 100 = .ok (.iload_n 1, 1) := by decide +kernel
theorem dX4_originOf_101 : decode cX4_originOf 101 = .ok (.iaload, 1) := by decide +kernel
theorem dX4_originOf_102 : decode cX4_originOf 102 = .ok (.goto 5, 3) := by decide +kernel
theorem dX4_originOf_105 : decode cX4_originOf 105 = .ok (.bipush (-9), 2) := by decide +kernel
theorem dX4_originOf_107 : decode cX4_originOf 107 = .ok (.ireturn, 1) := by decide +kernel
theorem dX4_timesOut_0 : decode cX4_timesOut 0 = .ok (.aload_n 0, 1) := by decide +kernel
theorem dX4_timesOut_1 : decode cX4_timesOut 1 = .ok (.getfield 15, 3) := by decide +kernel
theorem dX4_timesOut_4 : decode cX4_timesOut 4 = .ok (.aload_n 0, 1) := by decide +kernel
theorem dX4_timesOut_5 : decode cX4_timesOut 5 = .ok (.getfield 9, 3) := by decide +kernel
theorem dX4_timesOut_8 : decode cX4_timesOut 8 = .ok (.invokevirtual 48, 3) := by decide +kernel
theorem dX4_timesOut_11 : decode cX4_timesOut 11 = .ok (.iconst 0, 1) := by decide +kernel
theorem dX4_timesOut_12 : decode cX4_timesOut 12 = .ok (.istore_n 2, 1) := by decide +kernel
theorem dX4_timesOut_13 : decode cX4_timesOut 13 = .ok (.aload_n 0, 1) := by decide +kernel
theorem dX4_timesOut_14 : decode cX4_timesOut 14 = .ok (.getfield 9, 3) := by decide +kernel
theorem dX4_timesOut_17 : decode cX4_timesOut 17 = .ok (.getfield 52, 3) := by decide +kernel
theorem dX4_timesOut_20 : decode cX4_timesOut 20 = .ok (.istore_n 3, 1) := by decide +kernel
theorem dX4_timesOut_21 : decode cX4_timesOut 21 = .ok (.iconst 0, 1) := by decide +kernel
theorem dX4_timesOut_22 : decode cX4_timesOut 22 = .ok (.istore 4, 2) := by decide +kernel
theorem dX4_timesOut_24 : decode cX4_timesOut 24 = .ok (.iload 4, 2) := by decide +kernel
theorem dX4_timesOut_26 : decode cX4_timesOut 26 = .ok (.aload_n 0, 1) := by decide +kernel
theorem dX4_timesOut_27 : decode cX4_timesOut 27 = .ok (.getfield 15, 3) := by decide +kernel
theorem dX4_timesOut_30 : decode cX4_timesOut 30 = .ok (.getfield 31, 3) := by decide +kernel
theorem dX4_timesOut_33 : decode cX4_timesOut 33 = .ok (.if_icmp .ge 45, 3) := by decide +kernel
theorem dX4_timesOut_36 : decode cX4_timesOut 36 = .ok (.aload_n 0, 1) := by decide +kernel
theorem dX4_timesOut_37 : decode cX4_timesOut 37 = .ok (.getfield 15, 3) := by decide +kernel
theorem dX4_timesOut_40 : decode cX4_timesOut 40 = .ok (.aload_n 0, 1) := by decide +kernel
theorem dX4_timesOut_41 : decode cX4_timesOut 41 = .ok (.getfield 15, 3) := by decide +kernel
theorem dX4_timesOut_44 : decode cX4_timesOut 44 = .ok (.getfield 57, 3) := by decide +kernel
theorem dX4_timesOut_47 : decode cX4_timesOut 47 = .ok (.iload 4, 2) := by decide +kernel
theorem dX4_timesOut_49 : decode cX4_timesOut 49 = .ok (.iadd, 1) := by decide +kernel
theorem dX4_timesOut_50 : decode cX4_timesOut 50 = .ok (.iload_n 3, 1) := by decide +kernel
theorem dX4_timesOut_51 : decode cX4_timesOut 51 = .ok (.invokevirtual 60, 3) := by decide +kernel
theorem dX4_timesOut_54 : decode cX4_timesOut 54 = .ok (.istore_n 3, 1) := by decide +kernel
theorem dX4_timesOut_55 : decode cX4_timesOut 55 = .ok (.aload_n 0, 1) := by decide +kernel
theorem dX4_timesOut_56 : decode cX4_timesOut 56 = .ok (.getfield 15, 3) := by decide +kernel
theorem dX4_timesOut_59 : decode cX4_timesOut 59 = .ok (.getfield 77, 3) := by decide +kernel
theorem dX4_timesOut_62 : decode cX4_timesOut 62 = .ok (.iload_n 1, 1) := by decide +kernel
theorem dX4_timesOut_63 : decode cX4_timesOut 63 = .ok (.invokestatic 66, 3) := by decide +kernel
theorem dX4_timesOut_66 : decode cX4_timesOut 66 = .ok (.ifCond .eq 6, 3) := by decide +kernel
theorem dX4_timesOut_69 : decode cX4_timesOut 69 = .ok (.iinc 2 1, 3) := by decide +kernel
theorem dX4_timesOut_72 : decode cX4_timesOut 72 = .ok (.iinc 4 1, 3) := by decide +kernel
theorem dX4_timesOut_75 : decode cX4_timesOut 75 = .ok (.goto (-51), 3) := by decide +kernel
theorem dX4_timesOut_78 : decode cX4_timesOut 78 = .ok (.iload_n 2, 1) := by decide +kernel
theorem dX4_timesOut_79 : decode cX4_timesOut 79 = .ok (.ireturn, 1) := by decide +kernel
theorem dX4_timesLit_0 : decode cX4_timesLit 0 = .ok (.aload_n 0, 1) := by decide +kernel
theorem dX4_timesLit_1 : decode cX4_timesLit 1 = .ok (.getfield 15, 3) := by decide +kernel
theorem dX4_timesLit_4 : decode cX4_timesLit 4 = .ok (.aload_n 0, 1) := by decide +kernel
theorem dX4_timesLit_5 : decode cX4_timesLit 5 = .ok (.getfield 9, 3) := by decide +kernel
theorem dX4_timesLit_8 : decode cX4_timesLit 8 = .ok (.invokevirtual 48, 3) := by decide +kernel
theorem dX4_timesLit_11 : decode cX4_timesLit 11 = .ok (.iconst 0, 1) := by decide +kernel
theorem dX4_timesLit_12 : decode cX4_timesLit 12 = .ok (.istore_n 1, 1) := by decide +kernel
theorem dX4_timesLit_13 : decode cX4_timesLit 13 = .ok (.aload_n 0, 1) := by decide +kernel
theorem dX4_timesLit_14 : decode cX4_timesLit 14 = .ok (.getfield 9, 3) := by decide +kernel
theorem dX4_timesLit_17 : decode cX4_timesLit 17 = .ok (.getfield 52, 3) := by decide +kernel
theorem dX4_timesLit_20 : decode cX4_timesLit 20 = .ok (.istore_n 2, 1) := by decide +kernel
theorem dX4_timesLit_21 : decode cX4_timesLit 21 = .ok (.iconst 0, 1) := by decide +kernel
theorem dX4_timesLit_22 : decode cX4_timesLit 22 = .ok (.istore_n 3, 1) := by decide +kernel
theorem dX4_timesLit_23 : decode cX4_timesLit 23 = .ok (.iload_n 3, 1) := by decide +kernel
theorem dX4_timesLit_24 : decode cX4_timesLit 24 = .ok (.aload_n 0, 1) := by decide +kernel
theorem dX4_timesLit_25 : decode cX4_timesLit 25 = .ok (.getfield 15, 3) := by decide +kernel
theorem dX4_timesLit_28 : decode cX4_timesLit 28 = .ok (.getfield 31, 3) := by decide +kernel
theorem dX4_timesLit_31 : decode cX4_timesLit 31 = .ok (.if_icmp .ge 40, 3) := by decide +kernel
theorem dX4_timesLit_34 : decode cX4_timesLit 34 = .ok (.aload_n 0, 1) := by decide +kernel
theorem dX4_timesLit_35 : decode cX4_timesLit 35 = .ok (.getfield 15, 3) := by decide +kernel
theorem dX4_timesLit_38 : decode cX4_timesLit 38 = .ok (.aload_n 0, 1) := by decide +kernel
theorem dX4_timesLit_39 : decode cX4_timesLit 39 = .ok (.getfield 15, 3) := by decide +kernel
theorem dX4_timesLit_42 : decode cX4_timesLit 42 = .ok (.getfield 57, 3) := by decide +kernel
theorem dX4_timesLit_45 : decode cX4_timesLit 45 = .ok (.iload_n 3, 1) := by decide +kernel
theorem dX4_timesLit_46 : decode cX4_timesLit 46 = .ok (.iadd, 1) := by decide +kernel
theorem dX4_timesLit_47 : decode cX4_timesLit 47 = .ok (.iload_n 2, 1) := by decide +kernel
theorem dX4_timesLit_48 : decode cX4_timesLit 48 = .ok (.invokevirtual 60, 3) := by decide +kernel
theorem dX4_timesLit_51 : decode cX4_timesLit 51 = .ok (.istore_n 2, 1) := by decide +kernel
theorem dX4_timesLit_52 : decode cX4_timesLit 52 = .ok (.iload_n 1, 1) := by decide +kernel
theorem dX4_timesLit_53 : decode cX4_timesLit 53 = .ok (.aload_n 0, 1) := by decide +kernel
theorem dX4_timesLit_54 : decode cX4_timesLit 54 = .ok (.getfield 15, 3) := by decide +kernel
theorem dX4_timesLit_57 : decode cX4_timesLit 57 = .ok (.getfield 63, 3) := by decide +kernel
theorem dX4_timesLit_60 : decode cX4_timesLit 60 = .ok (.invokestatic 80, 3) := by decide +kernel
theorem dX4_timesLit_63 : decode cX4_timesLit 63 = .ok (.iadd, 1) := by decide +kernel
theorem dX4_timesLit_64 : decode cX4_timesLit 64 = .ok (.istore_n 1, 1) := by decide +kernel
theorem dX4_timesLit_65 : decode cX4_timesLit 65 = .ok (.iinc 3 1, 3) := by decide +kernel
theorem dX4_timesLit_68 : decode cX4_timesLit 68 = .ok (.goto (-45), 3) := by decide +kernel
theorem dX4_timesLit_71 : decode cX4_timesLit 71 = .ok (.iload_n 1, 1) := by decide +kernel
theorem dX4_timesLit_72 : decode cX4_timesLit 72 = .ok (.ireturn, 1) := by decide +kernel
theorem dX4_findGap_0 : decode cX4_findGap 0 = .ok (.aload_n 0, 1) := by decide +kernel
theorem dX4_findGap_1 : decode cX4_findGap 1 = .ok (.invokevirtual 23, 3) := by decide +kernel
theorem dX4_findGap_4 : decode cX4_findGap 4 = .ok (.aload_n 0, 1) := by decide +kernel
theorem dX4_findGap_5 : decode cX4_findGap 5 = .ok (.iconst 0, 1) := by decide +kernel
theorem dX4_findGap_6 : decode cX4_findGap 6 = .ok (.putfield 85, 3) := by decide +kernel
theorem dX4_findGap_9 : decode cX4_findGap 9 = .ok (.aload_n 0, 1) := by decide +kernel
theorem dX4_findGap_10 : decode cX4_findGap 10 = .ok (.bipush (-9), 2) := by decide +kernel
theorem dX4_findGap_12 : decode cX4_findGap 12 = .ok (.putfield 88, 3) := by decide +kernel
theorem dX4_findGap_15 : decode cX4_findGap 15 = .ok (.iconst 1, 1) := by decide +kernel
theorem dX4_findGap_16 : decode cX4_findGap 16 = .ok (.istore_n 1, 1) := by decide +kernel
theorem dX4_findGap_17 : decode cX4_findGap 17 = .ok (.iload_n 1, 1) := by decide +kernel
theorem dX4_findGap_18 : decode cX4_findGap 18 = .ok (.aload_n 0, 1) := by decide +kernel
theorem dX4_findGap_19 : decode cX4_findGap 19 = .ok (.getfield 15, 3) := by decide +kernel
theorem dX4_findGap_22 : decode cX4_findGap 22 = .ok (.getfield 31, 3) := by decide +kernel
theorem dX4_findGap_25 : decode cX4_findGap 25 = .ok (.if_icmp .gt 41, 3) := by decide +kernel
theorem dX4_findGap_28 : decode cX4_findGap 28 = .ok (.aload_n 0, 1) := by decide +kernel
theorem dX4_findGap_29 : decode cX4_findGap 29 = .ok (.aload_n 0, 1) := by decide +kernel
theorem dX4_findGap_30 : decode cX4_findGap 30 = .ok (.getfield 15, 3) := by decide +kernel
theorem dX4_findGap_33 : decode cX4_findGap 33 = .ok (.getfield 26, 3) := by decide +kernel
theorem dX4_findGap_36 : decode cX4_findGap 36 = .ok (.iload_n 1, 1) := by decide +kernel
theorem dX4_findGap_37 : decode cX4_findGap 37 = .ok (.iaload, 1) := by decide +kernel
theorem dX4_findGap_38 : decode cX4_findGap 38 = .ok (.invokevirtual 91, 3) := by decide +kernel
theorem dX4_findGap_41 : decode cX4_findGap 41 = .ok (.istore_n 2, 1) := by decide +kernel
theorem dX4_findGap_42 : decode cX4_findGap 42 = .ok (.iload_n 2, 1) := by decide +kernel
theorem dX4_findGap_43 : decode cX4_findGap 43 = .ok (.aload_n 0, 1) := by decide +kernel
theorem dX4_findGap_44 : decode cX4_findGap 44 = .ok (.getfield 85, 3) := by decide +kernel
theorem dX4_findGap_47 : decode cX4_findGap 47 = .ok (.if_icmp .le 13, 3) := by decide +kernel
theorem dX4_findGap_50 : decode cX4_findGap 50 = .ok (.aload_n 0, 1) := by decide +kernel
theorem dX4_findGap_51 : decode cX4_findGap 51 = .ok (.iload_n 2, 1) := by decide +kernel
theorem dX4_findGap_52 : decode cX4_findGap 52 = .ok (.putfield 85, 3) := by decide +kernel
theorem dX4_findGap_55 : decode cX4_findGap 55 = .ok (.aload_n 0, 1) := by decide +kernel
theorem dX4_findGap_56 : decode cX4_findGap 56 = .ok (.iload_n 1, 1) := by decide +kernel
theorem dX4_findGap_57 : decode cX4_findGap 57 = .ok (.putfield 88, 3) := by decide +kernel
theorem dX4_findGap_60 : decode cX4_findGap 60 = .ok (.iinc 1 1, 3) := by decide +kernel
theorem dX4_findGap_63 : decode cX4_findGap 63 = .ok (.goto (-46), 3) := by decide +kernel
theorem dX4_findGap_66 : decode cX4_findGap 66 = .ok (.return_, 1) := by decide +kernel
theorem dX4_firstUntrue_0 : decode cX4_firstUntrue 0 = .ok (.aload_n 0, 1) := by decide +kernel
theorem dX4_firstUntrue_1 : decode cX4_firstUntrue 1 = .ok (.invokevirtual 23, 3) := by decide +kernel
theorem dX4_firstUntrue_4 : decode cX4_firstUntrue 4 = .ok (.iconst 0, 1) := by decide +kernel
theorem dX4_firstUntrue_5 : decode cX4_firstUntrue 5 = .ok (.istore_n 2, 1) := by decide +kernel
theorem dX4_firstUntrue_6 : decode cX4_firstUntrue 6 = .ok (.iload_n 2, 1) := by decide +kernel
theorem dX4_firstUntrue_7 : decode cX4_firstUntrue 7 = .ok (.aload_n 1, 1) := by decide +kernel
theorem dX4_firstUntrue_8 : decode cX4_firstUntrue 8 = .ok (.getfield 94, 3) := by decide +kernel
theorem dX4_firstUntrue_11 : decode cX4_firstUntrue 11 = .ok (.if_icmp .ge 45, 3) := by decide +kernel
theorem dX4_firstUntrue_14 : decode cX4_firstUntrue 14 = .ok (.iload_n 2, 1) := by decide +kernel
theorem dX4_firstUntrue_15 : decode cX4_firstUntrue 15 = .ok (.aload_n 0, 1) := by decide +kernel
theorem dX4_firstUntrue_16 : decode cX4_firstUntrue 16 = .ok (.getfield 15, 3) := by decide +kernel
theorem dX4_firstUntrue_19 : decode cX4_firstUntrue 19 = .ok (.getfield 31, 3) := by decide +kernel
theorem dX4_firstUntrue_22 : decode cX4_firstUntrue 22 = .ok (.if_icmp .ge 26, 3) := by decide +kernel
theorem dX4_firstUntrue_25 : decode cX4_firstUntrue 25 = .ok (.aload_n 0, 1) := by decide +kernel
theorem dX4_firstUntrue_26 : decode cX4_firstUntrue 26 = .ok (.getfield 15, 3) := by decide +kernel
theorem dX4_firstUntrue_29 : decode cX4_firstUntrue 29 = .ok (.getfield 26, 3) := by decide +kernel
theorem dX4_firstUntrue_32 : decode cX4_firstUntrue 32 = .ok (.iload_n 2, 1) := by decide +kernel
theorem dX4_firstUntrue_33 : decode cX4_firstUntrue 33 = .ok (.iconst 1, 1) := by decide +kernel
theorem dX4_firstUntrue_34 : decode cX4_firstUntrue 34 = .ok (.iadd, 1) := by decide +kernel
theorem dX4_firstUntrue_35 : decode cX4_firstUntrue 35 = .ok (.iaload, 1) := by decide +kernel
theorem dX4_firstUntrue_36 : decode cX4_firstUntrue 36 = .ok (.invokestatic 80, 3) := by decide +kernel
theorem dX4_firstUntrue_39 : decode cX4_firstUntrue 39 = .ok (.aload_n 1, 1) := by decide +kernel
theorem dX4_firstUntrue_40 : decode cX4_firstUntrue 40 = .ok (.getfield 99, 3) := by decide +kernel
theorem dX4_firstUntrue_43 : decode cX4_firstUntrue 43 = .ok (.iload_n 2, 1) := by decide +kernel
theorem dX4_firstUntrue_44 : decode cX4_firstUntrue 44 = .ok (.iaload, 1) := by decide +kernel
theorem dX4_firstUntrue_45 : decode cX4_firstUntrue 45 = .ok (.if_icmp .eq 5, 3) := by decide +kernel
theorem dX4_firstUntrue_48 : decode cX4_firstUntrue 48 = .ok (.iload_n 2, 1) := by decide +kernel
theorem dX4_firstUntrue_49 : decode cX4_firstUntrue 49 = .ok (.ireturn, 1) := by decide +kernel
theorem dX4_firstUntrue_50 : decode cX4_firstUntrue 50 = .ok (.iinc 2 1, 3) := by decide +kernel
theorem dX4_firstUntrue_53 : decode cX4_firstUntrue 53 = .ok (.goto (-47), 3) := by decide +kernel
theorem dX4_firstUntrue_56 : decode cX4_firstUntrue 56 = .ok (.bipush (-9), 2) := by decide +kernel
theorem dX4_firstUntrue_58 : decode cX4_firstUntrue 58 = .ok (.ireturn, 1) := by decide +kernel
theorem dX4_findWaxSets_0 : decode cX4_findWaxSets 0 = .ok (.aload_n 0, 1) := by decide +kernel
theorem dX4_findWaxSets_1 : decode cX4_findWaxSets 1 = .ok (.getfield 15, 3) := by decide +kernel
theorem dX4_findWaxSets_4 : decode cX4_findWaxSets 4 = .ok (.aload_n 0, 1) := by decide +kernel
theorem dX4_findWaxSets_5 : decode cX4_findWaxSets 5 = .ok (.getfield 9, 3) := by decide +kernel
theorem dX4_findWaxSets_8 : decode cX4_findWaxSets 8 = .ok (.invokevirtual 48, 3) := by decide +kernel
theorem dX4_findWaxSets_11 : decode cX4_findWaxSets 11 = .ok (.aload_n 0, 1) := by decide +kernel
theorem dX4_findWaxSets_12 : decode cX4_findWaxSets 12 = .ok (.iconst 0, 1) := by decide +kernel
theorem dX4_findWaxSets_13 : decode cX4_findWaxSets 13 = .ok (.putfield 102, 3) := by decide +kernel
theorem dX4_findWaxSets_16 : decode cX4_findWaxSets 16 = .ok (.aload_n 0, 1) := by decide +kernel
theorem dX4_findWaxSets_17 : decode cX4_findWaxSets 17 = .ok (.bipush (-9), 2) := by decide +kernel
theorem dX4_findWaxSets_19 : decode cX4_findWaxSets 19 = .ok (.putfield 105, 3) := by decide +kernel
theorem dX4_findWaxSets_22 : decode cX4_findWaxSets 22 = .ok (.iconst 0, 1) := by decide +kernel
theorem dX4_findWaxSets_23 : decode cX4_findWaxSets 23 = .ok (.istore_n 2, 1) := by decide +kernel
theorem dX4_findWaxSets_24 : decode cX4_findWaxSets 24 = .ok (.iload_n 2, 1) := by decide +kernel
theorem dX4_findWaxSets_25 : decode cX4_findWaxSets 25 = .ok (.aload_n 0, 1) := by decide +kernel
theorem dX4_findWaxSets_26 : decode cX4_findWaxSets 26 = .ok (.getfield 15, 3) := by decide +kernel
theorem dX4_findWaxSets_29 : decode cX4_findWaxSets 29 = .ok (.getfield 108, 3) := by decide +kernel
theorem dX4_findWaxSets_32 : decode cX4_findWaxSets 32 = .ok (.if_icmp .gt 54, 3) := by decide +kernel
theorem dX4_findWaxSets_35 : decode cX4_findWaxSets 35 = .ok (.iload_n 2, 1) := by decide +kernel
theorem dX4_findWaxSets_36 : decode cX4_findWaxSets 36 = .ok (.aload_n 0, 1) := by decide +kernel
theorem dX4_findWaxSets_37 : decode cX4_findWaxSets 37 = .ok (.getfield 15, 3) := by decide +kernel
theorem dX4_findWaxSets_40 : decode cX4_findWaxSets 40 = .ok (.getfield 108, 3) := by decide +kernel
theorem dX4_findWaxSets_43 : decode cX4_findWaxSets 43 = .ok (.iconst (-1), 1) := by decide +kernel
theorem dX4_findWaxSets_44 : decode cX4_findWaxSets 44 = .ok (.ixor, 1) := by decide +kernel
theorem dX4_findWaxSets_45 : decode cX4_findWaxSets 45 = .ok (.iand, 1) := by decide +kernel
theorem dX4_findWaxSets_46 : decode cX4_findWaxSets 46 = .ok (.ifCond .ne 34, 3) := by decide +kernel
theorem dX4_findWaxSets_49 : decode cX4_findWaxSets 49 = .ok (.aload_n 0, 1) := by decide +kernel
theorem dX4_findWaxSets_50 : decode cX4_findWaxSets 50 = .ok (.iload_n 2, 1) := by decide +kernel
theorem dX4_findWaxSets_51 : decode cX4_findWaxSets 51 = .ok (.aload_n 1, 1) := by decide +kernel
theorem dX4_findWaxSets_52 : decode cX4_findWaxSets 52 = .ok (.invokevirtual 111, 3) := by decide +kernel
theorem dX4_findWaxSets_55 : decode cX4_findWaxSets 55 = .ok (.ifCond .eq 25, 3) := by decide +kernel
theorem dX4_findWaxSets_58 : decode cX4_findWaxSets 58 = .ok (.aload_n 0, 1) := by decide +kernel
theorem dX4_findWaxSets_59 : decode cX4_findWaxSets 59 = .ok (.getfield 102, 3) := by decide +kernel
theorem dX4_findWaxSets_62 : decode cX4_findWaxSets 62 = .ok (.ifCond .ne 8, 3) := by decide +kernel
theorem dX4_findWaxSets_65 : decode cX4_findWaxSets 65 = .ok (.aload_n 0, 1) := by decide +kernel
theorem dX4_findWaxSets_66 : decode cX4_findWaxSets 66 = .ok (.iload_n 2, 1) := by decide +kernel
theorem dX4_findWaxSets_67 : decode cX4_findWaxSets 67 = .ok (.putfield 105, 3) := by decide +kernel
theorem dX4_findWaxSets_70 : decode cX4_findWaxSets 70 = .ok (.aload_n 0, 1) := by decide +kernel
theorem dX4_findWaxSets_71 : decode cX4_findWaxSets 71 = .ok (.dup, 1) := by decide +kernel
theorem dX4_findWaxSets_72 : decode cX4_findWaxSets 72 = .ok (.getfield 102, 3) := by decide +kernel
theorem dX4_findWaxSets_75 : decode cX4_findWaxSets 75 = .ok (.iconst 1, 1) := by decide +kernel
theorem dX4_findWaxSets_76 : decode cX4_findWaxSets 76 = .ok (.iadd, 1) := by decide +kernel
theorem dX4_findWaxSets_77 : decode cX4_findWaxSets 77 = .ok (.putfield 102, 3) := by decide +kernel
theorem dX4_findWaxSets_80 : decode cX4_findWaxSets 80 = .ok (.iinc 2 1, 3) := by decide +kernel
theorem dX4_findWaxSets_83 : decode cX4_findWaxSets 83 = .ok (.goto (-59), 3) := by decide +kernel
theorem dX4_findWaxSets_86 : decode cX4_findWaxSets 86 = .ok (.return_, 1) := by decide +kernel
theorem dX4_enoughAtFirst_0 : decode cX4_enoughAtFirst 0 = .ok (.aload_n 0, 1) := by decide +kernel
theorem dX4_enoughAtFirst_1 : decode cX4_enoughAtFirst 1 = .ok (.getfield 15, 3) := by decide +kernel
theorem dX4_enoughAtFirst_4 : decode cX4_enoughAtFirst 4 = .ok (.aload_n 0, 1) := by decide +kernel
theorem dX4_enoughAtFirst_5 : decode cX4_enoughAtFirst 5 = .ok (.getfield 9, 3) := by decide +kernel
theorem dX4_enoughAtFirst_8 : decode cX4_enoughAtFirst 8 = .ok (.invokevirtual 48, 3) := by decide +kernel
theorem dX4_enoughAtFirst_11 : decode cX4_enoughAtFirst 11 = .ok (.bipush (-9), 2) := by decide +kernel
theorem dX4_enoughAtFirst_13 : decode cX4_enoughAtFirst 13 = .ok (.istore_n 1, 1) := by decide +kernel
theorem dX4_enoughAtFirst_14 : decode cX4_enoughAtFirst 14 = .ok (.bipush 9, 2) := by decide +kernel
theorem dX4_enoughAtFirst_16 : decode cX4_enoughAtFirst 16 = .ok (.istore_n 2, 1) := by decide +kernel
theorem dX4_enoughAtFirst_17 : decode cX4_enoughAtFirst 17 = .ok (.iconst 0, 1) := by decide +kernel
theorem dX4_enoughAtFirst_18 : decode cX4_enoughAtFirst 18 = .ok (.istore_n 3, 1) := by decide +kernel
theorem dX4_enoughAtFirst_19 : decode cX4_enoughAtFirst 19 = .ok (.iload_n 3, 1) := by decide +kernel
theorem dX4_enoughAtFirst_20 : decode cX4_enoughAtFirst 20 = .ok (.aload_n 0, 1) := by decide +kernel
theorem dX4_enoughAtFirst_21 : decode cX4_enoughAtFirst 21 = .ok (.getfield 15, 3) := by decide +kernel
theorem dX4_enoughAtFirst_24 : decode cX4_enoughAtFirst 24 = .ok (.getfield 108, 3) := by decide +kernel
theorem dX4_enoughAtFirst_27 : decode cX4_enoughAtFirst 27 = .ok (.if_icmp .gt 59, 3) := by decide +kernel
theorem dX4_enoughAtFirst_30 : decode cX4_enoughAtFirst 30 = .ok (.iload_n 3, 1) := by decide +kernel
theorem dX4_enoughAtFirst_31 : decode cX4_enoughAtFirst 31 = .ok (.invokestatic 80, 3) := by decide +kernel
theorem dX4_enoughAtFirst_34 : decode cX4_enoughAtFirst 34 = .ok (.istore 4, 2) := by decide +kernel
theorem dX4_enoughAtFirst_36 : decode cX4_enoughAtFirst 36 = .ok (.iload 4, 2) := by decide +kernel
theorem dX4_enoughAtFirst_38 : decode cX4_enoughAtFirst 38 = .ok (.iload_n 2, 1) := by decide +kernel
theorem dX4_enoughAtFirst_39 : decode cX4_enoughAtFirst 39 = .ok (.if_icmp .ge 41, 3) := by decide +kernel
theorem dX4_enoughAtFirst_42 : decode cX4_enoughAtFirst 42 = .ok (.iload_n 3, 1) := by decide +kernel
theorem dX4_enoughAtFirst_43 : decode cX4_enoughAtFirst 43 = .ok (.aload_n 0, 1) := by decide +kernel
theorem dX4_enoughAtFirst_44 : decode cX4_enoughAtFirst 44 = .ok (.getfield 15, 3) := by decide +kernel
theorem dX4_enoughAtFirst_47 : decode cX4_enoughAtFirst 47 = .ok (.getfield 108, 3) := by decide +kernel
theorem dX4_enoughAtFirst_50 : decode cX4_enoughAtFirst 50 = .ok (.iconst (-1), 1) := by decide +kernel
theorem dX4_enoughAtFirst_51 : decode cX4_enoughAtFirst 51 = .ok (.ixor, 1) := by decide +kernel
theorem dX4_enoughAtFirst_52 : decode cX4_enoughAtFirst 52 = .ok (.iand, 1) := by decide +kernel
theorem dX4_enoughAtFirst_53 : decode cX4_enoughAtFirst 53 = .ok (.ifCond .ne 27, 3) := by decide +kernel
theorem dX4_enoughAtFirst_56 : decode cX4_enoughAtFirst 56 = .ok (.aload_n 0, 1) := by decide +kernel
theorem dX4_enoughAtFirst_57 : decode cX4_enoughAtFirst 57 = .ok (.getfield 15, 3) := by decide +kernel
theorem dX4_enoughAtFirst_60 : decode cX4_enoughAtFirst 60 = .ok (.iconst 0, 1) := by decide +kernel
theorem dX4_enoughAtFirst_61 : decode cX4_enoughAtFirst 61 = .ok (.iload_n 3, 1) := by decide +kernel
theorem dX4_enoughAtFirst_62 : decode cX4_enoughAtFirst 62 = .ok (.invokevirtual 115, 3) := by decide +kernel
theorem dX4_enoughAtFirst_65 : decode cX4_enoughAtFirst 65 = .ok (.aload_n 0, 1) := by decide +kernel
theorem dX4_enoughAtFirst_66 : decode cX4_enoughAtFirst 66 = .ok (.getfield 15, 3) := by decide +kernel
theorem dX4_enoughAtFirst_69 : decode cX4_enoughAtFirst 69 = .ok (.getfield 108, 3) := by decide +kernel
theorem dX4_enoughAtFirst_72 : decode cX4_enoughAtFirst 72 = .ok (.if_icmp .ne 8, 3) := by decide +kernel
theorem dX4_enoughAtFirst_75 : decode cX4_enoughAtFirst 75 = .ok (.iload_n 3, 1) := by decide +kernel
theorem dX4_enoughAtFirst_76 : decode cX4_enoughAtFirst 76 = .ok (.istore_n 1, 1) := by decide +kernel
theorem dX4_enoughAtFirst_77 : decode cX4_enoughAtFirst 77 = .ok (.iload 4, 2) := by decide +kernel
theorem dX4_enoughAtFirst_79 : decode cX4_enoughAtFirst 79 = .ok (.istore_n 2, 1) := by decide +kernel
theorem dX4_enoughAtFirst_80 : decode cX4_enoughAtFirst 80 = .ok (.iinc 3 1, 3) := by decide +kernel
theorem dX4_enoughAtFirst_83 : decode cX4_enoughAtFirst 83 = .ok (.goto (-64), 3) := by decide +kernel
theorem dX4_enoughAtFirst_86 : decode cX4_enoughAtFirst 86 = .ok (.iload_n 1, 1) := by decide +kernel
theorem dX4_enoughAtFirst_87 : decode cX4_enoughAtFirst 87 = .ok (.ireturn, 1) := by decide +kernel
theorem dX4_calmMinutes_0 : decode cX4_calmMinutes 0 = .ok (.aload_n 0, 1) := by decide +kernel
theorem dX4_calmMinutes_1 : decode cX4_calmMinutes 1 = .ok (.getfield 15, 3) := by decide +kernel
theorem dX4_calmMinutes_4 : decode cX4_calmMinutes 4 = .ok (.aload_n 0, 1) := by decide +kernel
theorem dX4_calmMinutes_5 : decode cX4_calmMinutes 5 = .ok (.getfield 9, 3) := by decide +kernel
theorem dX4_calmMinutes_8 : decode cX4_calmMinutes 8 = .ok (.invokevirtual 48, 3) := by decide +kernel
theorem dX4_calmMinutes_11 : decode cX4_calmMinutes 11 = .ok (.aload_n 0, 1) := by decide +kernel
theorem dX4_calmMinutes_12 : decode cX4_calmMinutes 12 = .ok (.getfield 9, 3) := by decide +kernel
theorem dX4_calmMinutes_15 : decode cX4_calmMinutes 15 = .ok (.getfield 52, 3) := by decide +kernel
theorem dX4_calmMinutes_18 : decode cX4_calmMinutes 18 = .ok (.istore_n 1, 1) := by decide +kernel
theorem dX4_calmMinutes_19 : decode cX4_calmMinutes 19 = .ok (.iconst 0, 1) := by decide +kernel
theorem dX4_calmMinutes_20 : decode cX4_calmMinutes 20 = .ok (.istore_n 2, 1) := by decide +kernel
theorem dX4_calmMinutes_21 : decode cX4_calmMinutes 21 = .ok (.iload_n 2, 1) := by decide +kernel
theorem dX4_calmMinutes_22 : decode cX4_calmMinutes 22 = .ok (.bipush 60, 2) := by decide +kernel
theorem dX4_calmMinutes_24 : decode cX4_calmMinutes 24 = .ok (.if_icmp .gt 31, 3) := by decide +kernel
theorem dX4_calmMinutes_27 : decode cX4_calmMinutes 27 = .ok (.iload_n 1, 1) := by decide +kernel
theorem dX4_calmMinutes_28 : decode cX4_calmMinutes 28 = .ok (.aload_n 0, 1) := by decide +kernel
theorem dX4_calmMinutes_29 : decode cX4_calmMinutes 29 = .ok (.getfield 15, 3) := by decide +kernel
theorem dX4_calmMinutes_32 : decode cX4_calmMinutes 32 = .ok (.getfield 108, 3) := by decide +kernel
theorem dX4_calmMinutes_35 : decode cX4_calmMinutes 35 = .ok (.if_icmp .ne 5, 3) := by decide +kernel
theorem dX4_calmMinutes_38 : decode cX4_calmMinutes 38 = .ok (.iload_n 2, 1) := by decide +kernel
theorem dX4_calmMinutes_39 : decode cX4_calmMinutes 39 = .ok (.ireturn, 1) := by decide +kernel
theorem dX4_calmMinutes_40 : decode cX4_calmMinutes 40 = .ok (.aload_n 0, 1) := by decide +kernel
theorem dX4_calmMinutes_41 : decode cX4_calmMinutes 41 = .ok (.getfield 15, 3) := by decide +kernel
theorem dX4_calmMinutes_44 : decode cX4_calmMinutes 44 = .ok (.iload_n 1, 1) := by decide +kernel
theorem dX4_calmMinutes_45 : decode cX4_calmMinutes 45 = .ok (.invokevirtual 118, 3) := by decide +kernel
theorem dX4_calmMinutes_48 : decode cX4_calmMinutes 48 = .ok (.istore_n 1, 1) := by decide +kernel
theorem dX4_calmMinutes_49 : decode cX4_calmMinutes 49 = .ok (.iinc 2 1, 3) := by decide +kernel
theorem dX4_calmMinutes_52 : decode cX4_calmMinutes 52 = .ok (.goto (-31), 3) := by decide +kernel
theorem dX4_calmMinutes_55 : decode cX4_calmMinutes 55 = .ok (.bipush (-9), 2) := by decide +kernel
theorem dX4_calmMinutes_57 : decode cX4_calmMinutes 57 = .ok (.ireturn, 1) := by decide +kernel
theorem dX4_calmBehind_0 : decode cX4_calmBehind 0 = .ok (.aload_n 0, 1) := by decide +kernel
theorem dX4_calmBehind_1 : decode cX4_calmBehind 1 = .ok (.getfield 15, 3) := by decide +kernel
theorem dX4_calmBehind_4 : decode cX4_calmBehind 4 = .ok (.aload_n 0, 1) := by decide +kernel
theorem dX4_calmBehind_5 : decode cX4_calmBehind 5 = .ok (.getfield 9, 3) := by decide +kernel
theorem dX4_calmBehind_8 : decode cX4_calmBehind 8 = .ok (.invokevirtual 48, 3) := by decide +kernel
theorem dX4_calmBehind_11 : decode cX4_calmBehind 11 = .ok (.aload_n 0, 1) := by decide +kernel
theorem dX4_calmBehind_12 : decode cX4_calmBehind 12 = .ok (.getfield 9, 3) := by decide +kernel
theorem dX4_calmBehind_15 : decode cX4_calmBehind 15 = .ok (.getfield 52, 3) := by decide +kernel
theorem dX4_calmBehind_18 : decode cX4_calmBehind 18 = .ok (.istore_n 2, 1) := by decide +kernel
theorem dX4_calmBehind_19 : decode cX4_calmBehind 19 = .ok (.iconst 0, 1) := by decide +kernel
theorem dX4_calmBehind_20 : decode cX4_calmBehind 20 = .ok (.istore_n 3, 1) := by decide +kernel
theorem dX4_calmBehind_21 : decode cX4_calmBehind 21 = .ok (.iload_n 3, 1) := by decide +kernel
theorem dX4_calmBehind_22 : decode cX4_calmBehind 22 = .ok (.iload_n 1, 1) := by decide +kernel
theorem dX4_calmBehind_23 : decode cX4_calmBehind 23 = .ok (.if_icmp .ge 18, 3) := by decide +kernel
theorem dX4_calmBehind_26 : decode cX4_calmBehind 26 = .ok (.aload_n 0, 1) := by decide +kernel
theorem dX4_calmBehind_27 : decode cX4_calmBehind 27 = .ok (.getfield 15, 3) := by decide +kernel
theorem dX4_calmBehind_30 : decode cX4_calmBehind 30 = .ok (.iload_n 2, 1) := by decide +kernel
theorem dX4_calmBehind_31 : decode cX4_calmBehind 31 = .ok (.invokevirtual 118, 3) := by decide +kernel
theorem dX4_calmBehind_34 : decode cX4_calmBehind 34 = .ok (.istore_n 2, 1) := by decide +kernel
theorem dX4_calmBehind_35 : decode cX4_calmBehind 35 = .ok (.iinc 3 1, 3) := by decide +kernel
theorem dX4_calmBehind_38 : decode cX4_calmBehind 38 = .ok (.goto (-17), 3) := by decide +kernel
theorem dX4_calmBehind_41 : decode cX4_calmBehind 41 = .ok (.iload_n 2, 1) := by decide +kernel
theorem dX4_calmBehind_42 : decode cX4_calmBehind 42 = .ok (.ireturn, 1) := by decide +kernel
theorem dX4_walkFromNow_0 : decode cX4_walkFromNow 0 = .ok (.aload_n 0, 1) := by decide +kernel
theorem dX4_walkFromNow_1 : decode cX4_walkFromNow 1 = .ok (.getfield 15, 3) := by decide +kernel
theorem dX4_walkFromNow_4 : decode cX4_walkFromNow 4 = .ok (.aload_n 0, 1) := by decide +kernel
theorem dX4_walkFromNow_5 : decode cX4_walkFromNow 5 = .ok (.getfield 9, 3) := by decide +kernel
theorem dX4_walkFromNow_8 : decode cX4_walkFromNow 8 = .ok (.invokevirtual 48, 3) := by decide +kernel
theorem dX4_walkFromNow_11 : decode cX4_walkFromNow 11 = .ok (.aload_n 0, 1) := by decide +kernel
theorem dX4_walkFromNow_12 : decode cX4_walkFromNow 12 = .ok (.getfield 15, 3) := by decide +kernel
theorem dX4_walkFromNow_15 : decode cX4_walkFromNow 15 = .ok (.aload_n 0, 1) := by decide +kernel
theorem dX4_walkFromNow_16 : decode cX4_walkFromNow 16 = .ok (.getfield 9, 3) := by decide +kernel
theorem dX4_walkFromNow_19 : decode cX4_walkFromNow 19 = .ok (.getfield 52, 3) := by decide +kernel
theorem dX4_walkFromNow_22 : decode cX4_walkFromNow 22 = .ok (.invokevirtual 121, 3) := by decide +kernel
theorem dX4_walkFromNow_25 : decode cX4_walkFromNow 25 = .ok (.return_, 1) := by decide +kernel
theorem dX4_darkEnds_0 : decode cX4_darkEnds 0 = .ok (.iconst 0, 1) := by decide +kernel
theorem dX4_darkEnds_1 : decode cX4_darkEnds 1 = .ok (.istore_n 2, 1) := by decide +kernel
theorem dX4_darkEnds_2 : decode cX4_darkEnds 2 = .ok (.iconst 1, 1) := by decide +kernel
theorem dX4_darkEnds_3 : decode cX4_darkEnds 3 = .ok (.istore_n 3, 1) := by decide +kernel
theorem dX4_darkEnds_4 : decode cX4_darkEnds 4 = .ok (.iload_n 3, 1) := by decide +kernel
theorem dX4_darkEnds_5 : decode cX4_darkEnds 5 = .ok (.aload_n 0, 1) := by decide +kernel
theorem dX4_darkEnds_6 : decode cX4_darkEnds 6 = .ok (.getfield 15, 3) := by decide +kernel
theorem dX4_darkEnds_9 : decode cX4_darkEnds 9 = .ok (.getfield 31, 3) := by decide +kernel
theorem dX4_darkEnds_12 : decode cX4_darkEnds 12 = .ok (.if_icmp .gt 28, 3) := by decide +kernel
theorem dX4_darkEnds_15 : decode cX4_darkEnds 15 = .ok (.aload_n 0, 1) := by decide +kernel
theorem dX4_darkEnds_16 : decode cX4_darkEnds 16 = .ok (.getfield 15, 3) := by decide +kernel
theorem dX4_darkEnds_19 : decode cX4_darkEnds 19 = .ok (.getfield 26, 3) := by decide +kernel
theorem dX4_darkEnds_22 : decode cX4_darkEnds 22 = .ok (.iload_n 3, 1) := by decide +kernel
theorem dX4_darkEnds_23 : decode cX4_darkEnds 23 = .ok (.iaload, 1) := by decide +kernel
theorem dX4_darkEnds_24 : decode cX4_darkEnds 24 = .ok (.iload_n 1, 1) := by decide +kernel
theorem dX4_darkEnds_25 : decode cX4_darkEnds 25 = .ok (.invokestatic 66, 3) := by decide +kernel
theorem dX4_darkEnds_28 : decode cX4_darkEnds 28 = .ok (.ifCond .ne 6, 3) := by decide +kernel
theorem dX4_darkEnds_31 : decode cX4_darkEnds 31 = .ok (.iinc 2 1, 3) := by decide +kernel
theorem dX4_darkEnds_34 : decode cX4_darkEnds 34 = .ok (.iinc 3 1, 3) := by decide +kernel
theorem dX4_darkEnds_37 : decode cX4_darkEnds 37 = .ok (.goto (-33), 3) := by decide +kernel
theorem dX4_darkEnds_40 : decode cX4_darkEnds 40 = .ok (.iload_n 2, 1) := by decide +kernel
theorem dX4_darkEnds_41 : decode cX4_darkEnds 41 = .ok (.ireturn, 1) := by decide +kernel
theorem dX4_agrees_0 : decode cX4_agrees 0 = .ok (.aload_n 0, 1) := by decide +kernel
theorem dX4_agrees_1 : decode cX4_agrees 1 = .ok (.getfield 15, 3) := by decide +kernel
theorem dX4_agrees_4 : decode cX4_agrees 4 = .ok (.iload_n 1, 1) := by decide +kernel
theorem dX4_agrees_5 : decode cX4_agrees 5 = .ok (.invokevirtual 121, 3) := by decide +kernel
theorem dX4_agrees_8 : decode cX4_agrees 8 = .ok (.iconst 0, 1) := by decide +kernel
theorem dX4_agrees_9 : decode cX4_agrees 9 = .ok (.istore_n 3, 1) := by decide +kernel
theorem dX4_agrees_10 : decode cX4_agrees 10 = .ok (.iload_n 3, 1) := by decide +kernel
theorem dX4_agrees_11 : decode cX4_agrees 11 = .ok (.aload_n 0, 1) := by decide +kernel
theorem dX4_agrees_12 : decode cX4_agrees 12 = .ok (.getfield 15, 3) := by decide +kernel
theorem dX4_agrees_15 : decode cX4_agrees 15 = .ok (.getfield 124, 3) := by decide +kernel
theorem dX4_agrees_18 : decode cX4_agrees 18 = .ok (.if_icmp .ge 25, 3) := by decide +kernel
theorem dX4_agrees_21 : decode cX4_agrees 21 = .ok (.aload_n 0, 1) := by decide +kernel
theorem dX4_agrees_22 : decode cX4_agrees 22 = .ok (.iload_n 3, 1) := by decide +kernel
theorem dX4_agrees_23 : decode cX4_agrees 23 = .ok (.invokevirtual 44, 3) := by decide +kernel
theorem dX4_agrees_26 : decode cX4_agrees 26 = .ok (.aload_n 2, 1) := by decide +kernel
theorem dX4_agrees_27 : decode cX4_agrees 27 = .ok (.getfield 99, 3) := by decide +kernel
theorem dX4_agrees_30 : decode cX4_agrees 30 = .ok (.iload_n 3, 1) := by decide +kernel
theorem dX4_agrees_31 : decode cX4_agrees 31 = .ok (.iaload, 1) := by decide +kernel
theorem dX4_agrees_32 : decode cX4_agrees 32 = .ok (.if_icmp .eq 5, 3) := by decide +kernel
theorem dX4_agrees_35 : decode cX4_agrees 35 = .ok (.iconst 0, 1) := by decide +kernel
theorem dX4_agrees_36 : decode cX4_agrees 36 = .ok (.ireturn, 1) := by decide +kernel
theorem dX4_agrees_37 : decode cX4_agrees 37 = .ok (.iinc 3 1, 3) := by decide +kernel
theorem dX4_agrees_40 : decode cX4_agrees 40 = .ok (.goto (-30), 3) := by decide +kernel
theorem dX4_agrees_43 : decode cX4_agrees 43 = .ok (.iconst 1, 1) := by decide +kernel
theorem dX4_agrees_44 : decode cX4_agrees 44 = .ok (.ireturn, 1) := by decide +kernel
theorem dX4_handOn_0 : decode cX4_handOn 0 = .ok (.iconst 0, 1) := by decide +kernel
theorem dX4_handOn_1 : decode cX4_handOn 1 = .ok (.istore_n 2, 1) := by decide +kernel
theorem dX4_handOn_2 : decode cX4_handOn 2 = .ok (.iload_n 2, 1) := by decide +kernel
theorem dX4_handOn_3 : decode cX4_handOn 3 = .ok (.aload_n 0, 1) := by decide +kernel
theorem dX4_handOn_4 : decode cX4_handOn 4 = .ok (.getfield 15, 3) := by decide +kernel
theorem dX4_handOn_7 : decode cX4_handOn 7 = .ok (.getfield 124, 3) := by decide +kernel
theorem dX4_handOn_10 : decode cX4_handOn 10 = .ok (.if_icmp .ge 37, 3) := by decide +kernel
theorem dX4_handOn_13 : decode cX4_handOn 13 = .ok (.iload_n 1, 1) := by decide +kernel
theorem dX4_handOn_14 : decode cX4_handOn 14 = .ok (.iload_n 2, 1) := by decide +kernel
theorem dX4_handOn_15 : decode cX4_handOn 15 = .ok (.invokestatic 66, 3) := by decide +kernel
theorem dX4_handOn_18 : decode cX4_handOn 18 = .ok (.ifCond .eq 23, 3) := by decide +kernel
theorem dX4_handOn_21 : decode cX4_handOn 21 = .ok (.aload_n 0, 1) := by decide +kernel
theorem dX4_handOn_22 : decode cX4_handOn 22 = .ok (.getfield 19, 3) := by decide +kernel
theorem dX4_handOn_25 : decode cX4_handOn 25 = .ok (.iload_n 2, 1) := by decide +kernel
theorem dX4_handOn_26 : decode cX4_handOn 26 = .ok (.aload_n 0, 1) := by decide +kernel
theorem dX4_handOn_27 : decode cX4_handOn 27 = .ok (.getfield 19, 3) := by decide +kernel
theorem dX4_handOn_30 : decode cX4_handOn 30 = .ok (.aload_n 0, 1) := by decide +kernel
theorem dX4_handOn_31 : decode cX4_handOn 31 = .ok (.getfield 15, 3) := by decide +kernel
theorem dX4_handOn_34 : decode cX4_handOn 34 = .ok (.getfield 70, 3) := by decide +kernel
theorem dX4_handOn_37 : decode cX4_handOn 37 = .ok (.iload_n 2, 1) := by decide +kernel
theorem dX4_handOn_38 : decode cX4_handOn 38 = .ok (.iaload, 1) := by decide +kernel
theorem dX4_handOn_39 : decode cX4_handOn 39 = .ok (.iaload, 1) := by decide +kernel
theorem dX4_handOn_40 : decode cX4_handOn 40 = .ok (.iastore, 1) := by decide +kernel
theorem dX4_handOn_41 : decode cX4_handOn 41 = .ok (.iinc 2 1, 3) := by decide +kernel
theorem dX4_handOn_44 : decode cX4_handOn 44 = .ok (.goto (-42), 3) := by decide +kernel
theorem dX4_handOn_47 : decode cX4_handOn 47 = .ok (.return_, 1) := by decide +kernel
theorem dX4_widestGap_0 : decode cX4_widestGap 0 = .ok (.iconst 0, 1) := by decide +kernel
theorem dX4_widestGap_1 : decode cX4_widestGap 1 = .ok (.istore_n 2, 1) := by decide +kernel
theorem dX4_widestGap_2 : decode cX4_widestGap 2 = .ok (.iconst 0, 1) := by decide +kernel
theorem dX4_widestGap_3 : decode cX4_widestGap 3 = .ok (.istore_n 3, 1) := by decide +kernel
theorem dX4_widestGap_4 : decode cX4_widestGap 4 = .ok (.iconst 0, 1) := by decide +kernel
theorem dX4_widestGap_5 : decode cX4_widestGap 5 = .ok (.istore 4, 2) := by decide +kernel
theorem dX4_widestGap_7 : decode cX4_widestGap 7 = .ok (.iload 4, 2) := by decide +kernel
theorem dX4_widestGap_9 : decode cX4_widestGap 9 = .ok (.aload_n 0, 1) := by decide +kernel
theorem dX4_widestGap_10 : decode cX4_widestGap 10 = .ok (.getfield 15, 3) := by decide +kernel
theorem dX4_widestGap_13 : decode cX4_widestGap 13 = .ok (.getfield 124, 3) := by decide +kernel
theorem dX4_widestGap_16 : decode cX4_widestGap 16 = .ok (.if_icmp .ge 32, 3) := by decide +kernel
theorem dX4_widestGap_19 : decode cX4_widestGap 19 = .ok (.iload_n 1, 1) := by decide +kernel
theorem dX4_widestGap_20 : decode cX4_widestGap 20 = .ok (.iload 4, 2) := by decide +kernel
theorem dX4_widestGap_22 : decode cX4_widestGap 22 = .ok (.invokestatic 66, 3) := by decide +kernel
theorem dX4_widestGap_25 : decode cX4_widestGap 25 = .ok (.ifCond .eq 7, 3) := by decide +kernel
theorem dX4_widestGap_28 : decode cX4_widestGap 28 = .ok (.iconst 0, 1) := by decide +kernel
theorem dX4_widestGap_29 : decode cX4_widestGap 29 = .ok (.goto 6, 3) := by decide +kernel
theorem dX4_widestGap_32 : decode cX4_widestGap 32 = .ok (.iload_n 3, 1) := by decide +kernel
theorem dX4_widestGap_33 : decode cX4_widestGap 33 = .ok (.iconst 1, 1) := by decide +kernel
theorem dX4_widestGap_34 : decode cX4_widestGap 34 = .ok (.iadd, 1) := by decide +kernel
theorem dX4_widestGap_35 : decode cX4_widestGap 35 = .ok (.istore_n 3, 1) := by decide +kernel
theorem dX4_widestGap_36 : decode cX4_widestGap 36 = .ok (.iload_n 2, 1) := by decide +kernel
theorem dX4_widestGap_37 : decode cX4_widestGap 37 = .ok (.iload_n 3, 1) := by decide +kernel
theorem dX4_widestGap_38 : decode cX4_widestGap 38 = .ok (.invokestatic 41, 3) := by decide +kernel
theorem dX4_widestGap_41 : decode cX4_widestGap 41 = .ok (.istore_n 2, 1) := by decide +kernel
theorem dX4_widestGap_42 : decode cX4_widestGap 42 = .ok (.iinc 4 1, 3) := by decide +kernel
theorem dX4_widestGap_45 : decode cX4_widestGap 45 = .ok (.goto (-38), 3) := by decide +kernel
theorem dX4_widestGap_48 : decode cX4_widestGap 48 = .ok (.iload_n 2, 1) := by decide +kernel
theorem dX4_widestGap_49 : decode cX4_widestGap 49 = .ok (.ireturn, 1) := by decide +kernel
theorem dX5_init_0 : decode cX5_init 0 = .ok (.aload_n 0, 1) := by decide +kernel
theorem dX5_init_1 : decode cX5_init 1 = .ok (.invokespecial 1, 3) := by decide +kernel
theorem dX5_init_4 : decode cX5_init 4 = .ok (.aload_n 0, 1) := by decide +kernel
theorem dX5_init_5 : decode cX5_init 5 = .ok (.bipush 8, 2) := by decide +kernel
theorem dX5_init_7 : decode cX5_init 7 = .ok (.newarray .int, 2) := by decide +kernel
theorem dX5_init_9 : decode cX5_init 9 = .ok (.putfield 9, 3) := by decide +kernel
theorem dX5_init_12 : decode cX5_init 12 = .ok (.aload_n 0, 1) := by decide +kernel
theorem dX5_init_13 : decode cX5_init 13 = .ok (.bipush 8, 2) := by decide +kernel
theorem dX5_init_15 : decode cX5_init 15 = .ok (.newarray .int, 2) := by decide +kernel
theorem dX5_init_17 : decode cX5_init 17 = .ok (.putfield 13, 3) := by decide +kernel
theorem dX5_init_20 : decode cX5_init 20 = .ok (.aload_n 0, 1) := by decide +kernel
theorem dX5_init_21 : decode cX5_init 21 = .ok (.bipush 8, 2) := by decide +kernel
theorem dX5_init_23 : decode cX5_init 23 = .ok (.newarray .int, 2) := by decide +kernel
theorem dX5_init_25 : decode cX5_init 25 = .ok (.putfield 16, 3) := by decide +kernel
theorem dX5_init_28 : decode cX5_init 28 = .ok (.return_, 1) := by decide +kernel
theorem dX5_forget_0 : decode cX5_forget 0 = .ok (.aload_n 0, 1) := by decide +kernel
theorem dX5_forget_1 : decode cX5_forget 1 = .ok (.iconst 0, 1) := by decide +kernel
theorem dX5_forget_2 : decode cX5_forget 2 = .ok (.putfield 19, 3) := by decide +kernel
theorem dX5_forget_5 : decode cX5_forget 5 = .ok (.return_, 1) := by decide +kernel
theorem dX5_keep_0 : decode cX5_keep 0 = .ok (.aload_n 0, 1) := by decide +kernel
theorem dX5_keep_1 : decode cX5_keep 1 = .ok (.getfield 19, 3) := by decide +kernel
theorem dX5_keep_4 : decode cX5_keep 4 = .ok (.bipush 8, 2) := by decide +kernel
theorem dX5_keep_6 : decode cX5_keep 6 = .ok (.if_icmp .ne 7, 3) := by decide +kernel
theorem dX5_keep_9 : decode cX5_keep 9 = .ok (.aload_n 0, 1) := by decide +kernel
theorem dX5_keep_10 : decode cX5_keep 10 = .ok (.invokevirtual 23, 3) := by decide +kernel
theorem dX5_keep_13 : decode cX5_keep 13 = .ok (.aload_n 0, 1) := by decide +kernel
theorem dX5_keep_14 : decode cX5_keep 14 = .ok (.getfield 9, 3) := by decide +kernel
theorem dX5_keep_17 : decode cX5_keep 17 = .ok (.aload_n 0, 1) := by decide +kernel
theorem dX5_keep_18 : decode cX5_keep 18 = .ok (.getfield 19, 3) := by decide +kernel
theorem dX5_keep_21 : decode cX5_keep 21 = .ok (.aload_n 1, 1) := by decide +kernel
theorem dX5_keep_22 : decode cX5_keep 22 = .ok (.getfield 26, 3) := by decide +kernel
theorem dX5_keep_25 : decode cX5_keep 25 = .ok (.iastore, 1) := by decide +kernel
theorem dX5_keep_26 : decode cX5_keep 26 = .ok (.aload_n 0, 1) := by decide +kernel
theorem dX5_keep_27 : decode cX5_keep 27 = .ok (.getfield 13, 3) := by decide +kernel
theorem dX5_keep_30 : decode cX5_keep 30 = .ok (.aload_n 0, 1) := by decide +kernel
theorem dX5_keep_31 : decode cX5_keep 31 = .ok (.getfield 19, 3) := by decide +kernel
theorem dX5_keep_34 : decode cX5_keep 34 = .ok (.aload_n 1, 1) := by decide +kernel
theorem dX5_keep_35 : decode cX5_keep 35 = .ok (.getfield 31, 3) := by decide +kernel
theorem dX5_keep_38 : decode cX5_keep 38 = .ok (.iastore, 1) := by decide +kernel
theorem dX5_keep_39 : decode cX5_keep 39 = .ok (.aload_n 0, 1) := by decide +kernel
theorem dX5_keep_40 : decode cX5_keep 40 = .ok (.getfield 16, 3) := by decide +kernel
theorem dX5_keep_43 : decode cX5_keep 43 = .ok (.aload_n 0, 1) := by decide +kernel
theorem dX5_keep_44 : decode cX5_keep 44 = .ok (.getfield 19, 3) := by decide +kernel
theorem dX5_keep_47 : decode cX5_keep 47 = .ok (.aload_n 1, 1) := by decide +kernel
theorem dX5_keep_48 : decode cX5_keep 48 = .ok (.getfield 34, 3) := by decide +kernel
theorem dX5_keep_51 : decode cX5_keep 51 = .ok (.iastore, 1) := by decide +kernel
theorem dX5_keep_52 : decode cX5_keep 52 = .ok (.aload_n 0, 1) := by decide +kernel
theorem dX5_keep_53 : decode cX5_keep 53 = .ok (.dup, 1) := by decide +kernel
theorem dX5_keep_54 : decode cX5_keep 54 = .ok (.getfield 19, 3) := by decide +kernel
theorem dX5_keep_57 : decode cX5_keep 57 = .ok (.iconst 1, 1) := by decide +kernel
theorem dX5_keep_58 : decode cX5_keep 58 = .ok (.iadd, 1) := by decide +kernel
theorem dX5_keep_59 : decode cX5_keep 59 = .ok (.putfield 19, 3) := by decide +kernel
theorem dX5_keep_62 : decode cX5_keep 62 = .ok (.return_, 1) := by decide +kernel
theorem dX5_takeBack_0 : decode cX5_takeBack 0 = .ok (.aload_n 0, 1) := by decide +kernel
theorem dX5_takeBack_1 : decode cX5_takeBack 1 = .ok (.getfield 19, 3) := by decide +kernel
theorem dX5_takeBack_4 : decode cX5_takeBack 4 = .ok (.ifCond .le 52, 3) := by decide +kernel
theorem dX5_takeBack_7 : decode cX5_takeBack 7 = .ok (.aload_n 0, 1) := by decide +kernel
theorem dX5_takeBack_8 : decode cX5_takeBack 8 = .ok (.dup, 1) := by decide +kernel
theorem dX5_takeBack_9 : decode cX5_takeBack 9 = .ok (.getfield 19, 3) := by decide +kernel
theorem dX5_takeBack_12 : decode cX5_takeBack 12 = .ok (.iconst 1, 1) := by decide +kernel
theorem dX5_takeBack_13 : decode cX5_takeBack 13 = .ok (.isub, 1) := by decide +kernel
theorem dX5_takeBack_14 : decode cX5_takeBack 14 = .ok (.putfield 19, 3) := by decide +kernel
theorem dX5_takeBack_17 : decode cX5_takeBack 17 = .ok (.aload_n 1, 1) := by decide +kernel
theorem dX5_takeBack_18 : decode cX5_takeBack 18 = .ok (.aload_n 0, 1) := by decide +kernel
theorem dX5_takeBack_19 : decode cX5_takeBack 19 = .ok (.getfield 9, 3) := by decide +kernel
theorem dX5_takeBack_22 : decode cX5_takeBack 22 = .ok (.aload_n 0, 1) := by decide +kernel
theorem dX5_takeBack_23 : decode cX5_takeBack 23 = .ok (.getfield 19, 3) := by decide +kernel
theorem dX5_takeBack_26 : decode cX5_takeBack 26 = .ok (.iaload, 1) := by decide +kernel
theorem dX5_takeBack_27 : decode cX5_takeBack 27 = .ok (.putfield 26, 3) := by decide +kernel
theorem dX5_takeBack_30 : decode cX5_takeBack 30 = .ok (.aload_n 1, 1) := by decide +kernel
theorem dX5_takeBack_31 : decode cX5_takeBack 31 = .ok (.aload_n 0, 1) := by decide +kernel
theorem dX5_takeBack_32 : decode cX5_takeBack 32 = .ok (.getfield 13, 3) := by decide +kernel
theorem dX5_takeBack_35 : decode cX5_takeBack 35 = .ok (.aload_n 0, 1) := by decide +kernel
theorem dX5_takeBack_36 : decode cX5_takeBack 36 = .ok (.getfield 19, 3) := by decide +kernel
theorem dX5_takeBack_39 : decode cX5_takeBack 39 = .ok (.iaload, 1) := by decide +kernel
theorem dX5_takeBack_40 : decode cX5_takeBack 40 = .ok (.putfield 31, 3) := by decide +kernel
theorem dX5_takeBack_43 : decode cX5_takeBack 43 = .ok (.aload_n 1, 1) := by decide +kernel
theorem dX5_takeBack_44 : decode cX5_takeBack 44 = .ok (.aload_n 0, 1) := by decide +kernel
theorem dX5_takeBack_45 : decode cX5_takeBack 45 = .ok (.getfield 16, 3) := by decide +kernel
theorem dX5_takeBack_48 : decode cX5_takeBack 48 = .ok (.aload_n 0, 1) := by decide +kernel
theorem dX5_takeBack_49 : decode cX5_takeBack 49 = .ok (.getfield 19, 3) := by decide +kernel
theorem dX5_takeBack_52 : decode cX5_takeBack 52 = .ok (.iaload, 1) := by decide +kernel
theorem dX5_takeBack_53 : decode cX5_takeBack 53 = .ok (.putfield 34, 3) := by decide +kernel
theorem dX5_takeBack_56 : decode cX5_takeBack 56 = .ok (.return_, 1) := by decide +kernel
theorem dX5_dropOldest_0 : decode cX5_dropOldest 0 = .ok (.iconst 1, 1) := by decide +kernel
theorem dX5_dropOldest_1 : decode cX5_dropOldest 1 = .ok (.istore_n 1, 1) := by decide +kernel
theorem dX5_dropOldest_2 : decode cX5_dropOldest 2 = .ok (.iload_n 1, 1) := by decide +kernel
theorem dX5_dropOldest_3 : decode cX5_dropOldest 3 = .ok (.aload_n 0, 1) := by decide +kernel
theorem dX5_dropOldest_4 : decode cX5_dropOldest 4 = .ok (.getfield 19, 3) := by decide +kernel
theorem dX5_dropOldest_7 : decode cX5_dropOldest 7 = .ok (.if_icmp .ge 51, 3) := by decide +kernel
theorem dX5_dropOldest_10 : decode cX5_dropOldest 10 = .ok (.aload_n 0, 1) := by decide +kernel
theorem dX5_dropOldest_11 : decode cX5_dropOldest 11 = .ok (.getfield 9, 3) := by decide +kernel
theorem dX5_dropOldest_14 : decode cX5_dropOldest 14 = .ok (.iload_n 1, 1) := by decide +kernel
theorem dX5_dropOldest_15 : decode cX5_dropOldest 15 = .ok (.iconst 1, 1) := by decide +kernel
theorem dX5_dropOldest_16 : decode cX5_dropOldest 16 = .ok (.isub, 1) := by decide +kernel
theorem dX5_dropOldest_17 : decode cX5_dropOldest 17 = .ok (.aload_n 0, 1) := by decide +kernel
theorem dX5_dropOldest_18 : decode cX5_dropOldest 18 = .ok (.getfield 9, 3) := by decide +kernel
theorem dX5_dropOldest_21 : decode cX5_dropOldest 21 = .ok (.iload_n 1, 1) := by decide +kernel
theorem dX5_dropOldest_22 : decode cX5_dropOldest 22 = .ok (.iaload, 1) := by decide +kernel
theorem dX5_dropOldest_23 : decode cX5_dropOldest 23 = .ok (.iastore, 1) := by decide +kernel
theorem dX5_dropOldest_24 : decode cX5_dropOldest 24 = .ok (.aload_n 0, 1) := by decide +kernel
theorem dX5_dropOldest_25 : decode cX5_dropOldest 25 = .ok (.getfield 13, 3) := by decide +kernel
theorem dX5_dropOldest_28 : decode cX5_dropOldest 28 = .ok (.iload_n 1, 1) := by decide +kernel
theorem dX5_dropOldest_29 : decode cX5_dropOldest 29 = .ok (.iconst 1, 1) := by decide +kernel
theorem dX5_dropOldest_30 : decode cX5_dropOldest 30 = .ok (.isub, 1) := by decide +kernel
theorem dX5_dropOldest_31 : decode cX5_dropOldest 31 = .ok (.aload_n 0, 1) := by decide +kernel
theorem dX5_dropOldest_32 : decode cX5_dropOldest 32 = .ok (.getfield 13, 3) := by decide +kernel
theorem dX5_dropOldest_35 : decode cX5_dropOldest 35 = .ok (.iload_n 1, 1) := by decide +kernel
theorem dX5_dropOldest_36 : decode cX5_dropOldest 36 = .ok (.iaload, 1) := by decide +kernel
theorem dX5_dropOldest_37 : decode cX5_dropOldest 37 = .ok (.iastore, 1) := by decide +kernel
theorem dX5_dropOldest_38 : decode cX5_dropOldest 38 = .ok (.aload_n 0, 1) := by decide +kernel
theorem dX5_dropOldest_39 : decode cX5_dropOldest 39 = .ok (.getfield 16, 3) := by decide +kernel
theorem dX5_dropOldest_42 : decode cX5_dropOldest 42 = .ok (.iload_n 1, 1) := by decide +kernel
theorem dX5_dropOldest_43 : decode cX5_dropOldest 43 = .ok (.iconst 1, 1) := by decide +kernel
theorem dX5_dropOldest_44 : decode cX5_dropOldest 44 = .ok (.isub, 1) := by decide +kernel
theorem dX5_dropOldest_45 : decode cX5_dropOldest 45 = .ok (.aload_n 0, 1) := by decide +kernel
theorem dX5_dropOldest_46 : decode cX5_dropOldest 46 = .ok (.getfield 16, 3) := by decide +kernel
theorem dX5_dropOldest_49 : decode cX5_dropOldest 49 = .ok (.iload_n 1, 1) := by decide +kernel
theorem dX5_dropOldest_50 : decode cX5_dropOldest 50 = .ok (.iaload, 1) := by decide +kernel
theorem dX5_dropOldest_51 : decode cX5_dropOldest 51 = .ok (.iastore, 1) := by decide +kernel
theorem dX5_dropOldest_52 : decode cX5_dropOldest 52 = .ok (.iinc 1 1, 3) := by decide +kernel
theorem dX5_dropOldest_55 : decode cX5_dropOldest 55 = .ok (.goto (-53), 3) := by decide +kernel
theorem dX5_dropOldest_58 : decode cX5_dropOldest 58 = .ok (.aload_n 0, 1) := by decide +kernel
theorem dX5_dropOldest_59 : decode cX5_dropOldest 59 = .ok (.dup, 1) := by decide +kernel
theorem dX5_dropOldest_60 : decode cX5_dropOldest 60 = .ok (.getfield 19, 3) := by decide +kernel
theorem dX5_dropOldest_63 : decode cX5_dropOldest 63 = .ok (.iconst 1, 1) := by decide +kernel
theorem dX5_dropOldest_64 : decode cX5_dropOldest 64 = .ok (.isub, 1) := by decide +kernel
theorem dX5_dropOldest_65 : decode cX5_dropOldest 65 = .ok (.putfield 19, 3) := by decide +kernel
theorem dX5_dropOldest_68 : decode cX5_dropOldest 68 = .ok (.return_, 1) := by decide +kernel
theorem dX6_init_0 : decode cX6_init 0 = .ok (.aload_n 0, 1) := by decide +kernel
theorem dX6_init_1 : decode cX6_init 1 = .ok (.invokespecial 5, 3) := by decide +kernel
theorem dX6_init_4 : decode cX6_init 4 = .ok (.aload_n 0, 1) := by decide +kernel
theorem dX6_init_5 : decode cX6_init 5 = .ok (.aload_n 1, 1) := by decide +kernel
theorem dX6_init_6 : decode cX6_init 6 = .ok (.putfield 11, 3) := by decide +kernel
theorem dX6_init_9 : decode cX6_init 9 = .ok (.aload_n 0, 1) := by decide +kernel
theorem dX6_init_10 : decode cX6_init 10 = .ok (.aload_n 2, 1) := by decide +kernel
theorem dX6_init_11 : decode cX6_init 11 = .ok (.putfield 15, 3) := by decide +kernel
theorem dX6_init_14 : decode cX6_init 14 = .ok (.aload_n 0, 1) := by decide +kernel
theorem dX6_init_15 : decode cX6_init 15 = .ok (.iconst 3, 1) := by decide +kernel
theorem dX6_init_16 : decode cX6_init 16 = .ok (.newarray .int, 2) := by decide +kernel
theorem dX6_init_18 : decode cX6_init 18 = .ok (.putfield 19, 3) := by decide +kernel
theorem dX6_init_21 : decode cX6_init 21 = .ok (.return_, 1) := by decide +kernel
theorem dX6_bestStop_0 : decode cX6_bestStop 0 = .ok (.aload_n 0, 1) := by decide +kernel
theorem dX6_bestStop_1 : decode cX6_bestStop 1 = .ok (.invokevirtual 23, 3) := by decide +kernel
theorem dX6_bestStop_4 : decode cX6_bestStop 4 = .ok (.istore_n 1, 1) := by decide +kernel
theorem dX6_bestStop_5 : decode cX6_bestStop 5 = .ok (.bipush (-9), 2) := by decide +kernel
theorem dX6_bestStop_7 : decode cX6_bestStop 7 = .ok (.istore_n 2, 1) := by decide +kernel
theorem dX6_bestStop_8 : decode cX6_bestStop 8 = .ok (.iconst 1, 1) := by decide +kernel
theorem dX6_bestStop_9 : decode cX6_bestStop 9 = .ok (.istore_n 3, 1) := by decide +kernel
theorem dX6_bestStop_10 : decode cX6_bestStop 10 = .ok (.iload_n 3, 1) := by decide +kernel
theorem dX6_bestStop_11 : decode cX6_bestStop 11 = .ok (.iconst 5, 1) := by decide +kernel
theorem dX6_bestStop_12 : decode cX6_bestStop 12 = .ok (.if_icmp .gt 67, 3) := by decide +kernel
theorem dX6_bestStop_15 : decode cX6_bestStop 15 = .ok (.iconst 0, 1) := by decide +kernel
theorem dX6_bestStop_16 : decode cX6_bestStop 16 = .ok (.istore 4, 2) := by decide +kernel
theorem dX6_bestStop_18 : decode cX6_bestStop 18 = .ok (.iload 4, 2) := by decide +kernel
theorem dX6_bestStop_20 : decode cX6_bestStop 20 = .ok (.aload_n 0, 1) := by decide +kernel
theorem dX6_bestStop_21 : decode cX6_bestStop 21 = .ok (.getfield 15, 3) := by decide +kernel
theorem dX6_bestStop_24 : decode cX6_bestStop 24 = .ok (.getfield 27, 3) := by decide +kernel
theorem dX6_bestStop_27 : decode cX6_bestStop 27 = .ok (.if_icmp .ge 46, 3) := by decide +kernel
theorem dX6_bestStop_30 : decode cX6_bestStop 30 = .ok (.aload_n 0, 1) := by decide +kernel
theorem dX6_bestStop_31 : decode cX6_bestStop 31 = .ok (.iload 4, 2) := by decide +kernel
theorem dX6_bestStop_33 : decode cX6_bestStop 33 = .ok (.iload_n 3, 1) := by decide +kernel
theorem dX6_bestStop_34 : decode cX6_bestStop 34 = .ok (.invokevirtual 33, 3) := by decide +kernel
theorem dX6_bestStop_37 : decode cX6_bestStop 37 = .ok (.invokestatic 37, 3) := by decide +kernel
theorem dX6_bestStop_40 : decode cX6_bestStop 40 = .ok (.istore 5, 2) := by decide +kernel
theorem dX6_bestStop_42 : decode cX6_bestStop 42 = .ok (.iload 5, 2) := by decide +kernel
theorem dX6_bestStop_44 : decode cX6_bestStop 44 = .ok (.iload_n 1, 1) := by decide +kernel
theorem dX6_bestStop_45 : decode cX6_bestStop 45 = .ok (.if_icmp .le 22, 3) := by decide +kernel
theorem dX6_bestStop_48 : decode cX6_bestStop 48 = .ok (.iload 5, 2) := by decide +kernel
theorem dX6_bestStop_50 : decode cX6_bestStop 50 = .ok (.istore_n 1, 1) := by decide +kernel
theorem dX6_bestStop_51 : decode cX6_bestStop 51 = .ok (.bipush 10, 2) := by decide +kernel
theorem dX6_bestStop_53 : decode cX6_bestStop 53 = .ok (.aload_n 0, 1) := by decide +kernel
theorem dX6_bestStop_54 : decode cX6_bestStop 54 = .ok (.getfield 15, 3) := by decide +kernel
theorem dX6_bestStop_57 : decode cX6_bestStop 57 = .ok (.getfield 43, 3) := by decide +kernel
theorem dX6_bestStop_60 : decode cX6_bestStop 60 = .ok (.iload 4, 2) := by decide +kernel
theorem dX6_bestStop_62 : decode cX6_bestStop 62 = .ok (.iadd, 1) := by decide +kernel
theorem dX6_bestStop_63 : decode cX6_bestStop 63 = .ok (.imul, 1) := by decide +kernel
theorem dX6_bestStop_64 : decode cX6_bestStop 64 = .ok (.iload_n 3, 1) := by decide +kernel
theorem dX6_bestStop_65 : decode cX6_bestStop 65 = .ok (.iadd, 1) := by decide +kernel
theorem dX6_bestStop_66 : decode cX6_bestStop 66 = .ok (.istore_n 2, 1) := by decide +kernel
theorem dX6_bestStop_67 : decode cX6_bestStop 67 = .ok (.iinc 4 1, 3) := by decide +kernel
theorem dX6_bestStop_70 : decode cX6_bestStop 70 = .ok (.goto (-52), 3) := by decide +kernel
theorem dX6_bestStop_73 : decode cX6_bestStop 73 = .ok (.iinc 3 1, 3) := by decide +kernel
theorem dX6_bestStop_76 : decode cX6_bestStop 76 = .ok (.goto (-66), 3) := by decide +kernel
theorem dX6_bestStop_79 : decode cX6_bestStop 79 = .ok (.iload_n 2, 1) := by decide +kernel
theorem dX6_bestStop_80 : decode cX6_bestStop 80 = .ok (.ireturn, 1) := by decide +kernel
theorem dX6_bestMatch_0 : decode cX6_bestMatch 0 = .ok (.aload_n 0, 1) := by decide +kernel
theorem dX6_bestMatch_1 : decode cX6_bestMatch 1 = .ok (.invokevirtual 23, 3) := by decide +kernel
theorem dX6_bestMatch_4 : decode cX6_bestMatch 4 = .ok (.istore_n 1, 1) := by decide +kernel
theorem dX6_bestMatch_5 : decode cX6_bestMatch 5 = .ok (.bipush (-9), 2) := by decide +kernel
theorem dX6_bestMatch_7 : decode cX6_bestMatch 7 = .ok (.istore_n 2, 1) := by decide +kernel
theorem dX6_bestMatch_8 : decode cX6_bestMatch 8 = .ok (.aload_n 0, 1) := by decide +kernel
theorem dX6_bestMatch_9 : decode cX6_bestMatch 9 = .ok (.getfield 15, 3) := by decide +kernel
theorem dX6_bestMatch_12 : decode cX6_bestMatch 12 = .ok (.getfield 27, 3) := by decide +kernel
theorem dX6_bestMatch_15 : decode cX6_bestMatch 15 = .ok (.iconst 1, 1) := by decide +kernel
theorem dX6_bestMatch_16 : decode cX6_bestMatch 16 = .ok (.isub, 1) := by decide +kernel
theorem dX6_bestMatch_17 : decode cX6_bestMatch 17 = .ok (.istore_n 3, 1) := by decide +kernel
theorem dX6_bestMatch_18 : decode cX6_bestMatch 18 = .ok (.iload_n 3, 1) := by decide +kernel
theorem dX6_bestMatch_19 : decode cX6_bestMatch 19 = .ok (.ifCond .lt 89, 3) := by decide +kernel
theorem dX6_bestMatch_22 : decode cX6_bestMatch 22 = .ok (.iconst 0, 1) := by decide +kernel
theorem dX6_bestMatch_23 : decode cX6_bestMatch 23 = .ok (.istore 4, 2) := by decide +kernel
theorem dX6_bestMatch_25 : decode cX6_bestMatch 25 = .ok (.iload 4, 2) := by decide +kernel
theorem dX6_bestMatch_27 : decode cX6_bestMatch 27 = .ok (.aload_n 0, 1) := by decide +kernel
theorem dX6_bestMatch_28 : decode cX6_bestMatch 28 = .ok (.getfield 15, 3) := by decide +kernel
theorem dX6_bestMatch_31 : decode cX6_bestMatch 31 = .ok (.getfield 46, 3) := by decide +kernel
theorem dX6_bestMatch_34 : decode cX6_bestMatch 34 = .ok (.if_icmp .ge 68, 3) := by decide +kernel
theorem dX6_bestMatch_37 : decode cX6_bestMatch 37 = .ok (.aload_n 0, 1) := by decide +kernel
theorem dX6_bestMatch_38 : decode cX6_bestMatch 38 = .ok (.getfield 15, 3) := by decide +kernel
theorem dX6_bestMatch_41 : decode cX6_bestMatch 41 = .ok (.getfield 49, 3) := by decide +kernel
theorem dX6_bestMatch_44 : decode cX6_bestMatch 44 = .ok (.iload 4, 2) := by decide +kernel
theorem dX6_bestMatch_46 : decode cX6_bestMatch 46 = .ok (.invokestatic 52, 3) := by decide +kernel
theorem dX6_bestMatch_49 : decode cX6_bestMatch 49 = .ok (.ifCond .eq 47, 3) := by decide +kernel
theorem dX6_bestMatch_52 : decode cX6_bestMatch 52 = .ok (.aload_n 0, 1) := by decide +kernel
theorem dX6_bestMatch_53 : decode cX6_bestMatch 53 = .ok (.getfield 15, 3) := by decide +kernel
theorem dX6_bestMatch_56 : decode cX6_bestMatch 56 = .ok (.iload_n 3, 1) := by decide +kernel
theorem dX6_bestMatch_57 : decode cX6_bestMatch 57 = .ok (.aload_n 0, 1) := by decide +kernel
theorem dX6_bestMatch_58 : decode cX6_bestMatch 58 = .ok (.getfield 15, 3) := by decide +kernel
theorem dX6_bestMatch_61 : decode cX6_bestMatch 61 = .ok (.getfield 56, 3) := by decide +kernel
theorem dX6_bestMatch_64 : decode cX6_bestMatch 64 = .ok (.iload_n 3, 1) := by decide +kernel
theorem dX6_bestMatch_65 : decode cX6_bestMatch 65 = .ok (.iaload, 1) := by decide +kernel
theorem dX6_bestMatch_66 : decode cX6_bestMatch 66 = .ok (.iconst 1, 1) := by decide +kernel
theorem dX6_bestMatch_67 : decode cX6_bestMatch 67 = .ok (.iload 4, 2) := by decide +kernel
theorem dX6_bestMatch_69 : decode cX6_bestMatch 69 = .ok (.ishl, 1) := by decide +kernel
theorem dX6_bestMatch_70 : decode cX6_bestMatch 70 = .ok (.ior, 1) := by decide +kernel
theorem dX6_bestMatch_71 : decode cX6_bestMatch 71 = .ok (.invokevirtual 59, 3) := by decide +kernel
theorem dX6_bestMatch_74 : decode cX6_bestMatch 74 = .ok (.invokestatic 37, 3) := by decide +kernel
theorem dX6_bestMatch_77 : decode cX6_bestMatch 77 = .ok (.istore 5, 2) := by decide +kernel
theorem dX6_bestMatch_79 : decode cX6_bestMatch 79 = .ok (.iload 5, 2) := by decide +kernel
theorem dX6_bestMatch_81 : decode cX6_bestMatch 81 = .ok (.iload_n 1, 1) := by decide +kernel
theorem dX6_bestMatch_82 : decode cX6_bestMatch 82 = .ok (.if_icmp .le 14, 3) := by decide +kernel
theorem dX6_bestMatch_85 : decode cX6_bestMatch 85 = .ok (.iload 5, 2) := by decide +kernel
theorem dX6_bestMatch_87 : decode cX6_bestMatch 87 = .ok (.istore_n 1, 1) := by decide +kernel
theorem dX6_bestMatch_88 : decode cX6_bestMatch 88 = .ok (.bipush 10, 2) := by decide +kernel
theorem dX6_bestMatch_90 : decode cX6_bestMatch 90 = .ok (.iload_n 3, 1) := by decide +kernel
theorem dX6_bestMatch_91 : decode cX6_bestMatch 91 = .ok (.imul, 1) := by decide +kernel
theorem dX6_bestMatch_92 : decode cX6_bestMatch 92 = .ok (.iload 4, 2) := by decide +kernel
theorem dX6_bestMatch_94 : decode cX6_bestMatch 94 = .ok (.iadd, 1) := by decide +kernel
theorem dX6_bestMatch_95 : decode cX6_bestMatch 95 = .ok (.istore_n 2, 1) := by decide +kernel
theorem dX6_bestMatch_96 : decode cX6_bestMatch 96 = .ok (.iinc 4 1, 3) := by decide +kernel
theorem dX6_bestMatch_99 : decode cX6_bestMatch 99 = .ok (.goto (-74), 3) := by decide +kernel
theorem dX6_bestMatch_102 : decode cX6_bestMatch 102 = .ok (.iinc 3 (-1), 3) := by decide +kernel
theorem dX6_bestMatch_105 : decode cX6_bestMatch 105 = .ok (.goto (-87), 3) := by decide +kernel
theorem dX6_bestMatch_108 : decode cX6_bestMatch 108 = .ok (.iload_n 2, 1) := by decide +kernel
theorem dX6_bestMatch_109 : decode cX6_bestMatch 109 = .ok (.ireturn, 1) := by decide +kernel
theorem dX6_follow_0 : decode cX6_follow 0 = .ok (.aload_n 0, 1) := by decide +kernel
theorem dX6_follow_1 : decode cX6_follow 1 = .ok (.getfield 15, 3) := by decide +kernel
theorem dX6_follow_4 : decode cX6_follow 4 = .ok (.aload_n 0, 1) := by decide +kernel
theorem dX6_follow_5 : decode cX6_follow 5 = .ok (.getfield 11, 3) := by decide +kernel
theorem dX6_follow_8 : decode cX6_follow 8 = .ok (.invokevirtual 62, 3) := by decide +kernel
theorem dX6_follow_11 : decode cX6_follow 11 = .ok (.aload_n 0, 1) := by decide +kernel
theorem dX6_follow_12 : decode cX6_follow 12 = .ok (.getfield 11, 3) := by decide +kernel
theorem dX6_follow_15 : decode cX6_follow 15 = .ok (.getfield 66, 3) := by decide +kernel
theorem dX6_follow_18 : decode cX6_follow 18 = .ok (.istore_n 2, 1) := by decide +kernel
theorem dX6_follow_19 : decode cX6_follow 19 = .ok (.aload_n 0, 1) := by decide +kernel
theorem dX6_follow_20 : decode cX6_follow 20 = .ok (.getfield 11, 3) := by decide +kernel
theorem dX6_follow_23 : decode cX6_follow 23 = .ok (.getfield 71, 3) := by decide +kernel
theorem dX6_follow_26 : decode cX6_follow 26 = .ok (.istore_n 3, 1) := by decide +kernel
theorem dX6_follow_27 : decode cX6_follow 27 = .ok (.iconst 0, 1) := by decide +kernel
theorem dX6_follow_28 : decode cX6_follow 28 = .ok (.istore 4, 2) := by decide +kernel
theorem dX6_follow_30 : decode cX6_follow 30 = .ok (.iconst 0, 1) := by decide +kernel
theorem dX6_follow_31 : decode cX6_follow 31 = .ok (.istore 5, 2) := by decide +kernel
theorem dX6_follow_33 : decode cX6_follow 33 = .ok (.iconst 0, 1) := by decide +kernel
theorem dX6_follow_34 : decode cX6_follow 34 = .ok (.istore 6, 2) := by decide +kernel
theorem dX6_follow_36 : decode cX6_follow 36 = .ok (.iload 6, 2) := by decide +kernel
theorem dX6_follow_38 : decode cX6_follow 38 = .ok (.sipush 144, 3) := by decide +kernel
theorem dX6_follow_41 : decode cX6_follow 41 = .ok (.if_icmp .ge 84, 3) := by decide +kernel
theorem dX6_follow_44 : decode cX6_follow 44 = .ok (.iload_n 3, 1) := by decide +kernel
theorem dX6_follow_45 : decode cX6_follow 45 = .ok (.aload_n 0, 1) := by decide +kernel
theorem dX6_follow_46 : decode cX6_follow 46 = .ok (.getfield 11, 3) := by decide +kernel
theorem dX6_follow_49 : decode cX6_follow 49 = .ok (.getfield 74, 3) := by decide +kernel
theorem dX6_follow_52 : decode cX6_follow 52 = .ok (.if_icmp .ge 73, 3) := by decide +kernel
theorem dX6_follow_55 : decode cX6_follow 55 = .ok (.iload 4, 2) := by decide +kernel
theorem dX6_follow_57 : decode cX6_follow 57 = .ok (.iconst 5, 1) := by decide +kernel
theorem dX6_follow_58 : decode cX6_follow 58 = .ok (.if_icmp .ge 17, 3) := by decide +kernel
theorem dX6_follow_61 : decode cX6_follow 61 = .ok (.aload_n 0, 1) := by decide +kernel
theorem dX6_follow_62 : decode cX6_follow 62 = .ok (.iload_n 1, 1) := by decide +kernel
theorem dX6_follow_63 : decode cX6_follow 63 = .ok (.iload_n 2, 1) := by decide +kernel
theorem dX6_follow_64 : decode cX6_follow 64 = .ok (.iload_n 3, 1) := by decide +kernel
theorem dX6_follow_65 : decode cX6_follow 65 = .ok (.invokevirtual 77, 3) := by decide +kernel
theorem dX6_follow_68 : decode cX6_follow 68 = .ok (.ifCond .eq 7, 3) := by decide +kernel
theorem dX6_follow_71 : decode cX6_follow 71 = .ok (.iconst 1, 1) := by decide +kernel
theorem dX6_follow_72 : decode cX6_follow 72 = .ok (.goto 4, 3) := by decide +kernel
theorem dX6_follow_75 : decode cX6_follow 75 = .ok (.iconst 0, 1) := by decide +kernel
theorem dX6_follow_76 : decode cX6_follow 76 = .ok (.istore 7, 2) := by decide +kernel
theorem dX6_follow_78 : decode cX6_follow 78 = .ok (.aload_n 0, 1) := by decide +kernel
theorem dX6_follow_79 : decode cX6_follow 79 = .ok (.getfield 15, 3) := by decide +kernel
theorem dX6_follow_82 : decode cX6_follow 82 = .ok (.iload_n 3, 1) := by decide +kernel
theorem dX6_follow_83 : decode cX6_follow 83 = .ok (.iload_n 2, 1) := by decide +kernel
theorem dX6_follow_84 : decode cX6_follow 84 = .ok (.invokevirtual 81, 3) := by decide +kernel
theorem dX6_follow_87 : decode cX6_follow 87 = .ok (.istore_n 2, 1) := by decide +kernel
theorem dX6_follow_88 : decode cX6_follow 88 = .ok (.iinc 5 1, 3) := by decide +kernel
theorem dX6_follow_91 : decode cX6_follow 91 = .ok (.iload 7, 2) := by decide +kernel
theorem dX6_follow_93 : decode cX6_follow 93 = .ok (.ifCond .eq 10, 3) := by decide +kernel
theorem dX6_follow_96 : decode cX6_follow 96 = .ok (.iload 4, 2) := by decide +kernel
theorem dX6_follow_98 : decode cX6_follow 98 = .ok (.iconst 1, 1) := by decide +kernel
theorem dX6_follow_99 : decode cX6_follow 99 = .ok (.iadd, 1) := by decide +kernel
theorem dX6_follow_100 : decode cX6_follow 100 = .ok (.goto 4, 3) := by decide +kernel
theorem dX6_follow_103 : decode cX6_follow 103 = .ok (.iconst 0, 1) := by decide +kernel
theorem dX6_follow_104 : decode cX6_follow 104 = .ok (.istore 4, 2) := by decide +kernel
theorem dX6_follow_106 : decode cX6_follow 106 = .ok (.iload 7, 2) := by decide +kernel
theorem dX6_follow_108 : decode cX6_follow 108 = .ok (.ifCond .eq 7, 3) := by decide +kernel
theorem dX6_follow_111 : decode cX6_follow 111 = .ok (.iload_n 3, 1) := by decide +kernel
theorem dX6_follow_112 : decode cX6_follow 112 = .ok (.goto 6, 3) := by decide +kernel
theorem dX6_follow_115 : decode cX6_follow 115 = .ok (.iload_n 3, 1) := by decide +kernel
theorem dX6_follow_116 : decode cX6_follow 116 = .ok (.iconst 1, 1) := by decide +kernel
theorem dX6_follow_117 : decode cX6_follow 117 = .ok (.iadd, 1) := by decide +kernel
theorem dX6_follow_118 : decode cX6_follow 118 = .ok (.istore_n 3, 1) := by decide +kernel
theorem dX6_follow_119 : decode cX6_follow 119 = .ok (.iinc 6 1, 3) := by decide +kernel
theorem dX6_follow_122 : decode cX6_follow 122 = .ok (.goto (-86), 3) := by decide +kernel
theorem dX6_follow_125 : decode cX6_follow 125 = .ok (.aload_n 0, 1) := by decide +kernel
theorem dX6_follow_126 : decode cX6_follow 126 = .ok (.iload_n 2, 1) := by decide +kernel
theorem dX6_follow_127 : decode cX6_follow 127 = .ok (.invokestatic 37, 3) := by decide +kernel
theorem dX6_follow_130 : decode cX6_follow 130 = .ok (.putfield 84, 3) := by decide +kernel
theorem dX6_follow_133 : decode cX6_follow 133 = .ok (.aload_n 0, 1) := by decide +kernel
theorem dX6_follow_134 : decode cX6_follow 134 = .ok (.iload 5, 2) := by decide +kernel
theorem dX6_follow_136 : decode cX6_follow 136 = .ok (.putfield 87, 3) := by decide +kernel
theorem dX6_follow_139 : decode cX6_follow 139 = .ok (.return_, 1) := by decide +kernel
theorem dX6_bestRule_0 : decode cX6_bestRule 0 = .ok (.iconst 0, 1) := by decide +kernel
theorem dX6_bestRule_1 : decode cX6_bestRule 1 = .ok (.istore_n 1, 1) := by decide +kernel
theorem dX6_bestRule_2 : decode cX6_bestRule 2 = .ok (.iconst (-1), 1) := by decide +kernel
theorem dX6_bestRule_3 : decode cX6_bestRule 3 = .ok (.istore_n 2, 1) := by decide +kernel
theorem dX6_bestRule_4 : decode cX6_bestRule 4 = .ok (.iconst 0, 1) := by decide +kernel
theorem dX6_bestRule_5 : decode cX6_bestRule 5 = .ok (.istore_n 3, 1) := by decide +kernel
theorem dX6_bestRule_6 : decode cX6_bestRule 6 = .ok (.iconst 0, 1) := by decide +kernel
theorem dX6_bestRule_7 : decode cX6_bestRule 7 = .ok (.istore 4, 2) := by decide +kernel
theorem dX6_bestRule_9 : decode cX6_bestRule 9 = .ok (.iload 4, 2) := by decide +kernel
theorem dX6_bestRule_11 : decode cX6_bestRule 11 = .ok (.iconst 4, 1) := by decide +kernel
theorem dX6_bestRule_12 : decode cX6_bestRule 12 = .ok (.if_icmp .gt 52, 3) := by decide +kernel
theorem dX6_bestRule_15 : decode cX6_bestRule 15 = .ok (.aload_n 0, 1) := by decide +kernel
theorem dX6_bestRule_16 : decode cX6_bestRule 16 = .ok (.iload 4, 2) := by decide +kernel
theorem dX6_bestRule_18 : decode cX6_bestRule 18 = .ok (.invokevirtual 90, 3) := by decide +kernel
theorem dX6_bestRule_21 : decode cX6_bestRule 21 = .ok (.aload_n 0, 1) := by decide +kernel
theorem dX6_bestRule_22 : decode cX6_bestRule 22 = .ok (.getfield 84, 3) := by decide +kernel
theorem dX6_bestRule_25 : decode cX6_bestRule 25 = .ok (.iload_n 2, 1) := by decide +kernel
theorem dX6_bestRule_26 : decode cX6_bestRule 26 = .ok (.if_icmp .gt 19, 3) := by decide +kernel
theorem dX6_bestRule_29 : decode cX6_bestRule 29 = .ok (.aload_n 0, 1) := by decide +kernel
theorem dX6_bestRule_30 : decode cX6_bestRule 30 = .ok (.getfield 84, 3) := by decide +kernel
theorem dX6_bestRule_33 : decode cX6_bestRule 33 = .ok (.iload_n 2, 1) := by decide +kernel
theorem dX6_bestRule_34 : decode cX6_bestRule 34 = .ok (.if_icmp .ne 24, 3) := by decide +kernel
theorem dX6_bestRule_37 : decode cX6_bestRule 37 = .ok (.aload_n 0, 1) := by decide +kernel
theorem dX6_bestRule_38 : decode cX6_bestRule 38 = .ok (.getfield 87, 3) := by decide +kernel
theorem dX6_bestRule_41 : decode cX6_bestRule 41 = .ok (.iload_n 3, 1) := by decide +kernel
theorem dX6_bestRule_42 : decode cX6_bestRule 42 = .ok (.if_icmp .ge 16, 3) := by decide +kernel
theorem dX6_bestRule_45 : decode cX6_bestRule 45 = .ok (.iload 4, 2) := by decide +kernel
theorem dX6_bestRule_47 : decode cX6_bestRule 47 = .ok (.istore_n 1, 1) := by decide +kernel
theorem dX6_bestRule_48 : decode cX6_bestRule 48 = .ok (.aload_n 0, 1) := by decide +kernel
theorem dX6_bestRule_49 : decode cX6_bestRule 49 = .ok (.getfield 84, 3) := by decide +kernel
theorem dX6_bestRule_52 : decode cX6_bestRule 52 = .ok (.istore_n 2, 1) := by decide +kernel
theorem dX6_bestRule_53 : decode cX6_bestRule 53 = .ok (.aload_n 0, 1) := by decide +kernel
theorem dX6_bestRule_54 : decode cX6_bestRule 54 = .ok (.getfield 87, 3) := by decide +kernel
theorem dX6_bestRule_57 : decode cX6_bestRule 57 = .ok (.istore_n 3, 1) := by decide +kernel
theorem dX6_bestRule_58 : decode cX6_bestRule 58 = .ok (.iinc 4 1, 3) := by decide +kernel
theorem dX6_bestRule_61 : decode cX6_bestRule 61 = .ok (.goto (-52), 3) := by decide +kernel
theorem dX6_bestRule_64 : decode cX6_bestRule 64 = .ok (.iload_n 1, 1) := by decide +kernel
theorem dX6_bestRule_65 : decode cX6_bestRule 65 = .ok (.ireturn, 1) := by decide +kernel
theorem dX6_fewestMatches_0 : decode cX6_fewestMatches 0 = .ok (.aload_n 0, 1) := by decide +kernel
theorem dX6_fewestMatches_1 : decode cX6_fewestMatches 1 = .ok (.invokevirtual 23, 3) := by decide +kernel
theorem dX6_fewestMatches_4 : decode cX6_fewestMatches 4 = .ok (.ifCond .le 5, 3) := by decide +kernel
theorem dX6_fewestMatches_7 : decode cX6_fewestMatches 7 = .ok (.iconst 0, 1) := by decide +kernel
theorem dX6_fewestMatches_8 : decode cX6_fewestMatches 8 = .ok (.ireturn, 1) := by decide +kernel
theorem dX6_fewestMatches_9 : decode cX6_fewestMatches 9 = .ok (.aload_n 0, 1) := by decide +kernel
theorem dX6_fewestMatches_10 : decode cX6_fewestMatches 10 = .ok (.iconst 0, 1) := by decide +kernel
theorem dX6_fewestMatches_11 : decode cX6_fewestMatches 11 = .ok (.aload_n 0, 1) := by decide +kernel
theorem dX6_fewestMatches_12 : decode cX6_fewestMatches 12 = .ok (.getfield 11, 3) := by decide +kernel
theorem dX6_fewestMatches_15 : decode cX6_fewestMatches 15 = .ok (.getfield 66, 3) := by decide +kernel
theorem dX6_fewestMatches_18 : decode cX6_fewestMatches 18 = .ok (.iconst 0, 1) := by decide +kernel
theorem dX6_fewestMatches_19 : decode cX6_fewestMatches 19 = .ok (.invokevirtual 94, 3) := by decide +kernel
theorem dX6_fewestMatches_22 : decode cX6_fewestMatches 22 = .ok (.ifCond .eq 5, 3) := by decide +kernel
theorem dX6_fewestMatches_25 : decode cX6_fewestMatches 25 = .ok (.iconst 1, 1) := by decide +kernel
theorem dX6_fewestMatches_26 : decode cX6_fewestMatches 26 = .ok (.ireturn, 1) := by decide +kernel
theorem dX6_fewestMatches_27 : decode cX6_fewestMatches 27 = .ok (.aload_n 0, 1) := by decide +kernel
theorem dX6_fewestMatches_28 : decode cX6_fewestMatches 28 = .ok (.iconst 0, 1) := by decide +kernel
theorem dX6_fewestMatches_29 : decode cX6_fewestMatches 29 = .ok (.aload_n 0, 1) := by decide +kernel
theorem dX6_fewestMatches_30 : decode cX6_fewestMatches 30 = .ok (.getfield 11, 3) := by decide +kernel
theorem dX6_fewestMatches_33 : decode cX6_fewestMatches 33 = .ok (.getfield 66, 3) := by decide +kernel
theorem dX6_fewestMatches_36 : decode cX6_fewestMatches 36 = .ok (.iconst 0, 1) := by decide +kernel
theorem dX6_fewestMatches_37 : decode cX6_fewestMatches 37 = .ok (.invokevirtual 97, 3) := by decide +kernel
theorem dX6_fewestMatches_40 : decode cX6_fewestMatches 40 = .ok (.ifCond .eq 5, 3) := by decide +kernel
theorem dX6_fewestMatches_43 : decode cX6_fewestMatches 43 = .ok (.iconst 2, 1) := by decide +kernel
theorem dX6_fewestMatches_44 : decode cX6_fewestMatches 44 = .ok (.ireturn, 1) := by decide +kernel
theorem dX6_fewestMatches_45 : decode cX6_fewestMatches 45 = .ok (.iconst 0, 1) := by decide +kernel
theorem dX6_fewestMatches_46 : decode cX6_fewestMatches 46 = .ok (.istore_n 1, 1) := by decide +kernel
theorem dX6_fewestMatches_47 : decode cX6_fewestMatches 47 = .ok (.iload_n 1, 1) := by decide +kernel
theorem dX6_fewestMatches_48 : decode cX6_fewestMatches 48 = .ok (.aload_n 0, 1) := by decide +kernel
theorem dX6_fewestMatches_49 : decode cX6_fewestMatches 49 = .ok (.getfield 15, 3) := by decide +kernel
theorem dX6_fewestMatches_52 : decode cX6_fewestMatches 52 = .ok (.getfield 27, 3) := by decide +kernel
theorem dX6_fewestMatches_55 : decode cX6_fewestMatches 55 = .ok (.if_icmp .ge 60, 3) := by decide +kernel
theorem dX6_fewestMatches_58 : decode cX6_fewestMatches 58 = .ok (.aload_n 0, 1) := by decide +kernel
theorem dX6_fewestMatches_59 : decode cX6_fewestMatches 59 = .ok (.getfield 15, 3) := by decide +kernel
theorem dX6_fewestMatches_62 : decode cX6_fewestMatches 62 = .ok (.aload_n 0, 1) := by decide +kernel
theorem dX6_fewestMatches_63 : decode cX6_fewestMatches 63 = .ok (.getfield 15, 3) := by decide +kernel
theorem dX6_fewestMatches_66 : decode cX6_fewestMatches 66 = .ok (.getfield 43, 3) := by decide +kernel
theorem dX6_fewestMatches_69 : decode cX6_fewestMatches 69 = .ok (.iload_n 1, 1) := by decide +kernel
theorem dX6_fewestMatches_70 : decode cX6_fewestMatches 70 = .ok (.iadd, 1) := by decide +kernel
theorem dX6_fewestMatches_71 : decode cX6_fewestMatches 71 = .ok (.aload_n 0, 1) := by decide +kernel
theorem dX6_fewestMatches_72 : decode cX6_fewestMatches 72 = .ok (.aload_n 0, 1) := by decide +kernel
theorem dX6_fewestMatches_73 : decode cX6_fewestMatches 73 = .ok (.getfield 15, 3) := by decide +kernel
theorem dX6_fewestMatches_76 : decode cX6_fewestMatches 76 = .ok (.getfield 56, 3) := by decide +kernel
theorem dX6_fewestMatches_79 : decode cX6_fewestMatches 79 = .ok (.iload_n 1, 1) := by decide +kernel
theorem dX6_fewestMatches_80 : decode cX6_fewestMatches 80 = .ok (.iaload, 1) := by decide +kernel
theorem dX6_fewestMatches_81 : decode cX6_fewestMatches 81 = .ok (.invokevirtual 100, 3) := by decide +kernel
theorem dX6_fewestMatches_84 : decode cX6_fewestMatches 84 = .ok (.invokevirtual 81, 3) := by decide +kernel
theorem dX6_fewestMatches_87 : decode cX6_fewestMatches 87 = .ok (.istore_n 2, 1) := by decide +kernel
theorem dX6_fewestMatches_88 : decode cX6_fewestMatches 88 = .ok (.aload_n 0, 1) := by decide +kernel
theorem dX6_fewestMatches_89 : decode cX6_fewestMatches 89 = .ok (.iload_n 1, 1) := by decide +kernel
theorem dX6_fewestMatches_90 : decode cX6_fewestMatches 90 = .ok (.iconst 1, 1) := by decide +kernel
theorem dX6_fewestMatches_91 : decode cX6_fewestMatches 91 = .ok (.iadd, 1) := by decide +kernel
theorem dX6_fewestMatches_92 : decode cX6_fewestMatches 92 = .ok (.iload_n 2, 1) := by decide +kernel
theorem dX6_fewestMatches_93 : decode cX6_fewestMatches 93 = .ok (.iconst 1, 1) := by decide +kernel
theorem dX6_fewestMatches_94 : decode cX6_fewestMatches 94 = .ok (.invokevirtual 97, 3) := by decide +kernel
theorem dX6_fewestMatches_97 : decode cX6_fewestMatches 97 = .ok (.ifCond .eq 12, 3) := by decide +kernel
theorem dX6_fewestMatches_100 : decode cX6_fewestMatches 100 = .ok (.aload_n 0, 1) := by decide +kernel
theorem dX6_fewestMatches_101 : decode cX6_fewestMatches 101 = .ok (.getfield 19, 3) := by decide +kernel
theorem dX6_fewestMatches_104 : decode cX6_fewestMatches 104 = .ok (.iconst 0, 1) := by decide +kernel
theorem dX6_fewestMatches_105 : decode cX6_fewestMatches 105 = .ok (.iload_n 1, 1) := by decide +kernel
theorem dX6_fewestMatches_106 : decode cX6_fewestMatches 106 = .ok (.iastore, 1) := by decide +kernel
theorem dX6_fewestMatches_107 : decode cX6_fewestMatches 107 = .ok (.iconst 3, 1) := by decide +kernel
theorem dX6_fewestMatches_108 : decode cX6_fewestMatches 108 = .ok (.ireturn, 1) := by decide +kernel
theorem dX6_fewestMatches_109 : decode cX6_fewestMatches 109 = .ok (.iinc 1 1, 3) := by decide +kernel
theorem dX6_fewestMatches_112 : decode cX6_fewestMatches 112 = .ok (.goto (-65), 3) := by decide +kernel
theorem dX6_fewestMatches_115 : decode cX6_fewestMatches 115 = .ok (.bipush (-9), 2) := by decide +kernel
theorem dX6_fewestMatches_117 : decode cX6_fewestMatches 117 = .ok (.ireturn, 1) := by decide +kernel
theorem dX6_calmPlace_0 : decode cX6_calmPlace 0 = .ok (.aload_n 0, 1) := by decide +kernel
theorem dX6_calmPlace_1 : decode cX6_calmPlace 1 = .ok (.invokevirtual 23, 3) := by decide +kernel
theorem dX6_calmPlace_4 : decode cX6_calmPlace 4 = .ok (.istore_n 1, 1) := by decide +kernel
theorem dX6_calmPlace_5 : decode cX6_calmPlace 5 = .ok (.bipush (-9), 2) := by decide +kernel
theorem dX6_calmPlace_7 : decode cX6_calmPlace 7 = .ok (.istore_n 2, 1) := by decide +kernel
theorem dX6_calmPlace_8 : decode cX6_calmPlace 8 = .ok (.aload_n 0, 1) := by decide +kernel
theorem dX6_calmPlace_9 : decode cX6_calmPlace 9 = .ok (.getfield 11, 3) := by decide +kernel
theorem dX6_calmPlace_12 : decode cX6_calmPlace 12 = .ok (.getfield 71, 3) := by decide +kernel
theorem dX6_calmPlace_15 : decode cX6_calmPlace 15 = .ok (.istore_n 3, 1) := by decide +kernel
theorem dX6_calmPlace_16 : decode cX6_calmPlace 16 = .ok (.iload_n 3, 1) := by decide +kernel
theorem dX6_calmPlace_17 : decode cX6_calmPlace 17 = .ok (.aload_n 0, 1) := by decide +kernel
theorem dX6_calmPlace_18 : decode cX6_calmPlace 18 = .ok (.getfield 11, 3) := by decide +kernel
theorem dX6_calmPlace_21 : decode cX6_calmPlace 21 = .ok (.getfield 74, 3) := by decide +kernel
theorem dX6_calmPlace_24 : decode cX6_calmPlace 24 = .ok (.if_icmp .ge 58, 3) := by decide +kernel
theorem dX6_calmPlace_27 : decode cX6_calmPlace 27 = .ok (.aload_n 0, 1) := by decide +kernel
theorem dX6_calmPlace_28 : decode cX6_calmPlace 28 = .ok (.iload_n 3, 1) := by decide +kernel
theorem dX6_calmPlace_29 : decode cX6_calmPlace 29 = .ok (.invokevirtual 103, 3) := by decide +kernel
theorem dX6_calmPlace_32 : decode cX6_calmPlace 32 = .ok (.istore 4, 2) := by decide +kernel
theorem dX6_calmPlace_34 : decode cX6_calmPlace 34 = .ok (.aload_n 0, 1) := by decide +kernel
theorem dX6_calmPlace_35 : decode cX6_calmPlace 35 = .ok (.getfield 15, 3) := by decide +kernel
theorem dX6_calmPlace_38 : decode cX6_calmPlace 38 = .ok (.iconst 0, 1) := by decide +kernel
theorem dX6_calmPlace_39 : decode cX6_calmPlace 39 = .ok (.aload_n 0, 1) := by decide +kernel
theorem dX6_calmPlace_40 : decode cX6_calmPlace 40 = .ok (.getfield 11, 3) := by decide +kernel
theorem dX6_calmPlace_43 : decode cX6_calmPlace 43 = .ok (.getfield 66, 3) := by decide +kernel
theorem dX6_calmPlace_46 : decode cX6_calmPlace 46 = .ok (.invokevirtual 59, 3) := by decide +kernel
theorem dX6_calmPlace_49 : decode cX6_calmPlace 49 = .ok (.invokestatic 37, 3) := by decide +kernel
theorem dX6_calmPlace_52 : decode cX6_calmPlace 52 = .ok (.istore 5, 2) := by decide +kernel
theorem dX6_calmPlace_54 : decode cX6_calmPlace 54 = .ok (.aload_n 0, 1) := by decide +kernel
theorem dX6_calmPlace_55 : decode cX6_calmPlace 55 = .ok (.getfield 15, 3) := by decide +kernel
theorem dX6_calmPlace_58 : decode cX6_calmPlace 58 = .ok (.getfield 106, 3) := by decide +kernel
theorem dX6_calmPlace_61 : decode cX6_calmPlace 61 = .ok (.iload_n 3, 1) := by decide +kernel
theorem dX6_calmPlace_62 : decode cX6_calmPlace 62 = .ok (.iload 4, 2) := by decide +kernel
theorem dX6_calmPlace_64 : decode cX6_calmPlace 64 = .ok (.iastore, 1) := by decide +kernel
theorem dX6_calmPlace_65 : decode cX6_calmPlace 65 = .ok (.iload 5, 2) := by decide +kernel
theorem dX6_calmPlace_67 : decode cX6_calmPlace 67 = .ok (.iload_n 1, 1) := by decide +kernel
theorem dX6_calmPlace_68 : decode cX6_calmPlace 68 = .ok (.if_icmp .le 8, 3) := by decide +kernel
theorem dX6_calmPlace_71 : decode cX6_calmPlace 71 = .ok (.iload 5, 2) := by decide +kernel
theorem dX6_calmPlace_73 : decode cX6_calmPlace 73 = .ok (.istore_n 1, 1) := by decide +kernel
theorem dX6_calmPlace_74 : decode cX6_calmPlace 74 = .ok (.iload_n 3, 1) := by decide +kernel
theorem dX6_calmPlace_75 : decode cX6_calmPlace 75 = .ok (.istore_n 2, 1) := by decide +kernel
theorem dX6_calmPlace_76 : decode cX6_calmPlace 76 = .ok (.iinc 3 1, 3) := by decide +kernel
theorem dX6_calmPlace_79 : decode cX6_calmPlace 79 = .ok (.goto (-63), 3) := by decide +kernel
theorem dX6_calmPlace_82 : decode cX6_calmPlace 82 = .ok (.iload_n 2, 1) := by decide +kernel
theorem dX6_calmPlace_83 : decode cX6_calmPlace 83 = .ok (.ireturn, 1) := by decide +kernel
theorem dX6_calmPair_0 : decode cX6_calmPair 0 = .ok (.aload_n 0, 1) := by decide +kernel
theorem dX6_calmPair_1 : decode cX6_calmPair 1 = .ok (.invokevirtual 23, 3) := by decide +kernel
theorem dX6_calmPair_4 : decode cX6_calmPair 4 = .ok (.istore_n 1, 1) := by decide +kernel
theorem dX6_calmPair_5 : decode cX6_calmPair 5 = .ok (.bipush (-9), 2) := by decide +kernel
theorem dX6_calmPair_7 : decode cX6_calmPair 7 = .ok (.istore_n 2, 1) := by decide +kernel
theorem dX6_calmPair_8 : decode cX6_calmPair 8 = .ok (.aload_n 0, 1) := by decide +kernel
theorem dX6_calmPair_9 : decode cX6_calmPair 9 = .ok (.getfield 11, 3) := by decide +kernel
theorem dX6_calmPair_12 : decode cX6_calmPair 12 = .ok (.getfield 71, 3) := by decide +kernel
theorem dX6_calmPair_15 : decode cX6_calmPair 15 = .ok (.istore_n 3, 1) := by decide +kernel
theorem dX6_calmPair_16 : decode cX6_calmPair 16 = .ok (.iload_n 3, 1) := by decide +kernel
theorem dX6_calmPair_17 : decode cX6_calmPair 17 = .ok (.aload_n 0, 1) := by decide +kernel
theorem dX6_calmPair_18 : decode cX6_calmPair 18 = .ok (.getfield 11, 3) := by decide +kernel
theorem dX6_calmPair_21 : decode cX6_calmPair 21 = .ok (.getfield 74, 3) := by decide +kernel
theorem dX6_calmPair_24 : decode cX6_calmPair 24 = .ok (.if_icmp .ge 107, 3) := by decide +kernel
theorem dX6_calmPair_27 : decode cX6_calmPair 27 = .ok (.aload_n 0, 1) := by decide +kernel
theorem dX6_calmPair_28 : decode cX6_calmPair 28 = .ok (.iload_n 3, 1) := by decide +kernel
theorem dX6_calmPair_29 : decode cX6_calmPair 29 = .ok (.invokevirtual 103, 3) := by decide +kernel
theorem dX6_calmPair_32 : decode cX6_calmPair 32 = .ok (.istore 4, 2) := by decide +kernel
theorem dX6_calmPair_34 : decode cX6_calmPair 34 = .ok (.iload_n 3, 1) := by decide +kernel
theorem dX6_calmPair_35 : decode cX6_calmPair 35 = .ok (.iconst 1, 1) := by decide +kernel
theorem dX6_calmPair_36 : decode cX6_calmPair 36 = .ok (.iadd, 1) := by decide +kernel
theorem dX6_calmPair_37 : decode cX6_calmPair 37 = .ok (.istore 5, 2) := by decide +kernel
theorem dX6_calmPair_39 : decode cX6_calmPair 39 = .ok (.iload 5, 2) := by decide +kernel
theorem dX6_calmPair_41 : decode cX6_calmPair 41 = .ok (.aload_n 0, 1) := by decide +kernel
theorem dX6_calmPair_42 : decode cX6_calmPair 42 = .ok (.getfield 11, 3) := by decide +kernel
theorem dX6_calmPair_45 : decode cX6_calmPair 45 = .ok (.getfield 74, 3) := by decide +kernel
theorem dX6_calmPair_48 : decode cX6_calmPair 48 = .ok (.if_icmp .ge 66, 3) := by decide +kernel
theorem dX6_calmPair_51 : decode cX6_calmPair 51 = .ok (.aload_n 0, 1) := by decide +kernel
theorem dX6_calmPair_52 : decode cX6_calmPair 52 = .ok (.iload 5, 2) := by decide +kernel
theorem dX6_calmPair_54 : decode cX6_calmPair 54 = .ok (.invokevirtual 103, 3) := by decide +kernel
theorem dX6_calmPair_57 : decode cX6_calmPair 57 = .ok (.istore 6, 2) := by decide +kernel
theorem dX6_calmPair_59 : decode cX6_calmPair 59 = .ok (.aload_n 0, 1) := by decide +kernel
theorem dX6_calmPair_60 : decode cX6_calmPair 60 = .ok (.getfield 15, 3) := by decide +kernel
theorem dX6_calmPair_63 : decode cX6_calmPair 63 = .ok (.iconst 0, 1) := by decide +kernel
theorem dX6_calmPair_64 : decode cX6_calmPair 64 = .ok (.aload_n 0, 1) := by decide +kernel
theorem dX6_calmPair_65 : decode cX6_calmPair 65 = .ok (.getfield 11, 3) := by decide +kernel
theorem dX6_calmPair_68 : decode cX6_calmPair 68 = .ok (.getfield 66, 3) := by decide +kernel
theorem dX6_calmPair_71 : decode cX6_calmPair 71 = .ok (.invokevirtual 59, 3) := by decide +kernel
theorem dX6_calmPair_74 : decode cX6_calmPair 74 = .ok (.invokestatic 37, 3) := by decide +kernel
theorem dX6_calmPair_77 : decode cX6_calmPair 77 = .ok (.istore 7, 2) := by decide +kernel
theorem dX6_calmPair_79 : decode cX6_calmPair 79 = .ok (.aload_n 0, 1) := by decide +kernel
theorem dX6_calmPair_80 : decode cX6_calmPair 80 = .ok (.getfield 15, 3) := by decide +kernel
theorem dX6_calmPair_83 : decode cX6_calmPair 83 = .ok (.getfield 106, 3) := by decide +kernel
theorem dX6_calmPair_86 : decode cX6_calmPair 86 = .ok (.iload 5, 2) := by decide +kernel
theorem dX6_calmPair_88 : decode cX6_calmPair 88 = .ok (.iload 6, 2) := by decide +kernel
theorem dX6_calmPair_90 : decode cX6_calmPair 90 = .ok (.iastore, 1) := by decide +kernel
theorem dX6_calmPair_91 : decode cX6_calmPair 91 = .ok (.iload 7, 2) := by decide +kernel
theorem dX6_calmPair_93 : decode cX6_calmPair 93 = .ok (.iload_n 1, 1) := by decide +kernel
theorem dX6_calmPair_94 : decode cX6_calmPair 94 = .ok (.if_icmp .le 14, 3) := by decide +kernel
theorem dX6_calmPair_97 : decode cX6_calmPair 97 = .ok (.iload 7, 2) := by decide +kernel
theorem dX6_calmPair_99 : decode cX6_calmPair 99 = .ok (.istore_n 1, 1) := by decide +kernel
theorem dX6_calmPair_100 : decode cX6_calmPair 100 = .ok (.bipush 100, 2) := by decide +kernel
theorem dX6_calmPair_102 : decode cX6_calmPair 102 = .ok (.iload_n 3, 1) := by decide +kernel
theorem dX6_calmPair_103 : decode cX6_calmPair 103 = .ok (.imul, 1) := by decide +kernel
theorem dX6_calmPair_104 : decode cX6_calmPair 104 = .ok (.iload 5, 2) := by decide +kernel
theorem dX6_calmPair_106 : decode cX6_calmPair 106 = .ok (.iadd, 1) := by decide +kernel
theorem dX6_calmPair_107 : decode cX6_calmPair 107 = .ok (.istore_n 2, 1) := by decide +kernel
theorem dX6_calmPair_108 : decode cX6_calmPair 108 = .ok (.iinc 5 1, 3) := by decide +kernel
theorem dX6_calmPair_111 : decode cX6_calmPair 111 = .ok (.goto (-72), 3) := by decide +kernel
theorem dX6_calmPair_114 : decode cX6_calmPair 114 = .ok (.aload_n 0, 1) := by decide +kernel
theorem dX6_calmPair_115 : decode cX6_calmPair 115 = .ok (.getfield 15, 3) := by decide +kernel
theorem dX6_calmPair_118 : decode cX6_calmPair 118 = .ok (.getfield 106, 3) := by decide +kernel
theorem dX6_calmPair_121 : decode cX6_calmPair 121 = .ok (.iload_n 3, 1) := by decide +kernel
theorem dX6_calmPair_122 : decode cX6_calmPair 122 = .ok (.iload 4, 2) := by decide +kernel
theorem dX6_calmPair_124 : decode cX6_calmPair 124 = .ok (.iastore, 1) := by decide +kernel
theorem dX6_calmPair_125 : decode cX6_calmPair 125 = .ok (.iinc 3 1, 3) := by decide +kernel
theorem dX6_calmPair_128 : decode cX6_calmPair 128 = .ok (.goto (-112), 3) := by decide +kernel
theorem dX6_calmPair_131 : decode cX6_calmPair 131 = .ok (.iload_n 2, 1) := by decide +kernel
theorem dX6_calmPair_132 : decode cX6_calmPair 132 = .ok (.ireturn, 1) := by decide +kernel
theorem dX6_startFromNow_0 : decode cX6_startFromNow 0 = .ok (.aload_n 0, 1) := by decide +kernel
theorem dX6_startFromNow_1 : decode cX6_startFromNow 1 = .ok (.getfield 15, 3) := by decide +kernel
theorem dX6_startFromNow_4 : decode cX6_startFromNow 4 = .ok (.aload_n 0, 1) := by decide +kernel
theorem dX6_startFromNow_5 : decode cX6_startFromNow 5 = .ok (.getfield 11, 3) := by decide +kernel
theorem dX6_startFromNow_8 : decode cX6_startFromNow 8 = .ok (.invokevirtual 62, 3) := by decide +kernel
theorem dX6_startFromNow_11 : decode cX6_startFromNow 11 = .ok (.aload_n 0, 1) := by decide +kernel
theorem dX6_startFromNow_12 : decode cX6_startFromNow 12 = .ok (.getfield 15, 3) := by decide +kernel
theorem dX6_startFromNow_15 : decode cX6_startFromNow 15 = .ok (.aload_n 0, 1) := by decide +kernel
theorem dX6_startFromNow_16 : decode cX6_startFromNow 16 = .ok (.getfield 11, 3) := by decide +kernel
theorem dX6_startFromNow_19 : decode cX6_startFromNow 19 = .ok (.getfield 66, 3) := by decide +kernel
theorem dX6_startFromNow_22 : decode cX6_startFromNow 22 = .ok (.invokevirtual 109, 3) := by decide +kernel
theorem dX6_startFromNow_25 : decode cX6_startFromNow 25 = .ok (.aload_n 0, 1) := by decide +kernel
theorem dX6_startFromNow_26 : decode cX6_startFromNow 26 = .ok (.getfield 15, 3) := by decide +kernel
theorem dX6_startFromNow_29 : decode cX6_startFromNow 29 = .ok (.getfield 56, 3) := by decide +kernel
theorem dX6_startFromNow_32 : decode cX6_startFromNow 32 = .ok (.aload_n 0, 1) := by decide +kernel
theorem dX6_startFromNow_33 : decode cX6_startFromNow 33 = .ok (.getfield 15, 3) := by decide +kernel
theorem dX6_startFromNow_36 : decode cX6_startFromNow 36 = .ok (.getfield 27, 3) := by decide +kernel
theorem dX6_startFromNow_39 : decode cX6_startFromNow 39 = .ok (.iaload, 1) := by decide +kernel
theorem dX6_startFromNow_40 : decode cX6_startFromNow 40 = .ok (.invokestatic 37, 3) := by decide +kernel
theorem dX6_startFromNow_43 : decode cX6_startFromNow 43 = .ok (.ireturn, 1) := by decide +kernel
theorem dX6_stillAt_0 : decode cX6_stillAt 0 = .ok (.aload_n 0, 1) := by decide +kernel
theorem dX6_stillAt_1 : decode cX6_stillAt 1 = .ok (.getfield 15, 3) := by decide +kernel
theorem dX6_stillAt_4 : decode cX6_stillAt 4 = .ok (.getfield 106, 3) := by decide +kernel
theorem dX6_stillAt_7 : decode cX6_stillAt 7 = .ok (.iload_n 1, 1) := by decide +kernel
theorem dX6_stillAt_8 : decode cX6_stillAt 8 = .ok (.iaload, 1) := by decide +kernel
theorem dX6_stillAt_9 : decode cX6_stillAt 9 = .ok (.istore_n 2, 1) := by decide +kernel
theorem dX6_stillAt_10 : decode cX6_stillAt 10 = .ok (.aload_n 0, 1) := by decide +kernel
theorem dX6_stillAt_11 : decode cX6_stillAt 11 = .ok (.getfield 15, 3) := by decide +kernel
theorem dX6_stillAt_14 : decode cX6_stillAt 14 = .ok (.getfield 106, 3) := by decide +kernel
theorem dX6_stillAt_17 : decode cX6_stillAt 17 = .ok (.iload_n 1, 1) := by decide +kernel
theorem dX6_stillAt_18 : decode cX6_stillAt 18 = .ok (.iconst 0, 1) := by decide +kernel
theorem dX6_stillAt_19 : decode cX6_stillAt 19 = .ok (.iastore, 1) := by decide +kernel
theorem dX6_stillAt_20 : decode cX6_stillAt 20 = .ok (.iload_n 2, 1) := by decide +kernel
theorem dX6_stillAt_21 : decode cX6_stillAt 21 = .ok (.ireturn, 1) := by decide +kernel
theorem dX6_withStop_0 : decode cX6_withStop 0 = .ok (.aload_n 0, 1) := by decide +kernel
theorem dX6_withStop_1 : decode cX6_withStop 1 = .ok (.getfield 15, 3) := by decide +kernel
theorem dX6_withStop_4 : decode cX6_withStop 4 = .ok (.getfield 56, 3) := by decide +kernel
theorem dX6_withStop_7 : decode cX6_withStop 7 = .ok (.iload_n 1, 1) := by decide +kernel
theorem dX6_withStop_8 : decode cX6_withStop 8 = .ok (.iaload, 1) := by decide +kernel
theorem dX6_withStop_9 : decode cX6_withStop 9 = .ok (.istore_n 3, 1) := by decide +kernel
theorem dX6_withStop_10 : decode cX6_withStop 10 = .ok (.iconst 0, 1) := by decide +kernel
theorem dX6_withStop_11 : decode cX6_withStop 11 = .ok (.istore 4, 2) := by decide +kernel
theorem dX6_withStop_13 : decode cX6_withStop 13 = .ok (.iload 4, 2) := by decide +kernel
theorem dX6_withStop_15 : decode cX6_withStop 15 = .ok (.iload_n 2, 1) := by decide +kernel
theorem dX6_withStop_16 : decode cX6_withStop 16 = .ok (.if_icmp .ge 27, 3) := by decide +kernel
theorem dX6_withStop_19 : decode cX6_withStop 19 = .ok (.aload_n 0, 1) := by decide +kernel
theorem dX6_withStop_20 : decode cX6_withStop 20 = .ok (.getfield 15, 3) := by decide +kernel
theorem dX6_withStop_23 : decode cX6_withStop 23 = .ok (.aload_n 0, 1) := by decide +kernel
theorem dX6_withStop_24 : decode cX6_withStop 24 = .ok (.getfield 15, 3) := by decide +kernel
theorem dX6_withStop_27 : decode cX6_withStop 27 = .ok (.getfield 43, 3) := by decide +kernel
theorem dX6_withStop_30 : decode cX6_withStop 30 = .ok (.iload_n 1, 1) := by decide +kernel
theorem dX6_withStop_31 : decode cX6_withStop 31 = .ok (.iadd, 1) := by decide +kernel
theorem dX6_withStop_32 : decode cX6_withStop 32 = .ok (.iload_n 3, 1) := by decide +kernel
theorem dX6_withStop_33 : decode cX6_withStop 33 = .ok (.invokevirtual 81, 3) := by decide +kernel
theorem dX6_withStop_36 : decode cX6_withStop 36 = .ok (.istore_n 3, 1) := by decide +kernel
theorem dX6_withStop_37 : decode cX6_withStop 37 = .ok (.iinc 4 1, 3) := by decide +kernel
theorem dX6_withStop_40 : decode cX6_withStop 40 = .ok (.goto (-27), 3) := by decide +kernel
theorem dX6_withStop_43 : decode cX6_withStop 43 = .ok (.aload_n 0, 1) := by decide +kernel
theorem dX6_withStop_44 : decode cX6_withStop 44 = .ok (.getfield 15, 3) := by decide +kernel
theorem dX6_withStop_47 : decode cX6_withStop 47 = .ok (.iload_n 1, 1) := by decide +kernel
theorem dX6_withStop_48 : decode cX6_withStop 48 = .ok (.iload_n 3, 1) := by decide +kernel
theorem dX6_withStop_49 : decode cX6_withStop 49 = .ok (.invokevirtual 59, 3) := by decide +kernel
theorem dX6_withStop_52 : decode cX6_withStop 52 = .ok (.ireturn, 1) := by decide +kernel
theorem dX6_tellsToStop_0 : decode cX6_tellsToStop 0 = .ok (.iload_n 1, 1) := by decide +kernel
theorem dX6_tellsToStop_1 : decode cX6_tellsToStop 1 = .ok (.ifCond .eq 7, 3) := by decide +kernel
theorem dX6_tellsToStop_4 : decode cX6_tellsToStop 4 = .ok (.iload_n 2, 1) := by decide +kernel
theorem dX6_tellsToStop_5 : decode cX6_tellsToStop 5 = .ok (.ifCond .ne 5, 3) := by decide +kernel
theorem dX6_tellsToStop_8 : decode cX6_tellsToStop 8 = .ok (.iconst 0, 1) := by decide +kernel
theorem dX6_tellsToStop_9 : decode cX6_tellsToStop 9 = .ok (.ireturn, 1) := by decide +kernel
theorem dX6_tellsToStop_10 : decode cX6_tellsToStop 10 = .ok (.iload_n 1, 1) := by decide +kernel
theorem dX6_tellsToStop_11 : decode cX6_tellsToStop 11 = .ok (.iconst 1, 1) := by decide +kernel
theorem dX6_tellsToStop_12 : decode cX6_tellsToStop 12 = .ok (.if_icmp .ne 25, 3) := by decide +kernel
theorem dX6_tellsToStop_15 : decode cX6_tellsToStop 15 = .ok (.iconst 2, 1) := by decide +kernel
theorem dX6_tellsToStop_16 : decode cX6_tellsToStop 16 = .ok (.iload_n 2, 1) := by decide +kernel
theorem dX6_tellsToStop_17 : decode cX6_tellsToStop 17 = .ok (.invokestatic 37, 3) := by decide +kernel
theorem dX6_tellsToStop_20 : decode cX6_tellsToStop 20 = .ok (.imul, 1) := by decide +kernel
theorem dX6_tellsToStop_21 : decode cX6_tellsToStop 21 = .ok (.aload_n 0, 1) := by decide +kernel
theorem dX6_tellsToStop_22 : decode cX6_tellsToStop 22 = .ok (.getfield 15, 3) := by decide +kernel
theorem dX6_tellsToStop_25 : decode cX6_tellsToStop 25 = .ok (.getfield 46, 3) := by decide +kernel
theorem dX6_tellsToStop_28 : decode cX6_tellsToStop 28 = .ok (.if_icmp .ge 7, 3) := by decide +kernel
theorem dX6_tellsToStop_31 : decode cX6_tellsToStop 31 = .ok (.iconst 1, 1) := by decide +kernel
theorem dX6_tellsToStop_32 : decode cX6_tellsToStop 32 = .ok (.goto 4, 3) := by decide +kernel
theorem dX6_tellsToStop_35 : decode cX6_tellsToStop 35 = .ok (.iconst 0, 1) := by decide +kernel
theorem dX6_tellsToStop_36 : decode cX6_tellsToStop 36 = .ok (.ireturn, 1) := by decide +kernel
theorem dX6_tellsToStop_37 : decode cX6_tellsToStop 37 = .ok (.iload_n 1, 1) := by decide +kernel
theorem dX6_tellsToStop_38 : decode cX6_tellsToStop 38 = .ok (.iconst 3, 1) := by decide +kernel
theorem dX6_tellsToStop_39 : decode cX6_tellsToStop 39 = .ok (.if_icmp .ne 18, 3) := by decide +kernel
theorem dX6_tellsToStop_42 : decode cX6_tellsToStop 42 = .ok (.aload_n 0, 1) := by decide +kernel
theorem dX6_tellsToStop_43 : decode cX6_tellsToStop 43 = .ok (.getfield 11, 3) := by decide +kernel
theorem dX6_tellsToStop_46 : decode cX6_tellsToStop 46 = .ok (.getfield 112, 3) := by decide +kernel
theorem dX6_tellsToStop_49 : decode cX6_tellsToStop 49 = .ok (.iload_n 3, 1) := by decide +kernel
theorem dX6_tellsToStop_50 : decode cX6_tellsToStop 50 = .ok (.iaload, 1) := by decide +kernel
theorem dX6_tellsToStop_51 : decode cX6_tellsToStop 51 = .ok (.iconst 2, 1) := by decide +kernel
theorem dX6_tellsToStop_52 : decode cX6_tellsToStop 52 = .ok (.if_icmp .le 5, 3) := by decide +kernel
theorem dX6_tellsToStop_55 : decode cX6_tellsToStop 55 = .ok (.iconst 0, 1) := by decide +kernel
theorem dX6_tellsToStop_56 : decode cX6_tellsToStop 56 = .ok (.ireturn, 1) := by decide +kernel
theorem dX6_tellsToStop_57 : decode cX6_tellsToStop 57 = .ok (.iload_n 1, 1) := by decide +kernel
theorem dX6_tellsToStop_58 : decode cX6_tellsToStop 58 = .ok (.iconst 4, 1) := by decide +kernel
theorem dX6_tellsToStop_59 : decode cX6_tellsToStop 59 = .ok (.if_icmp .ne 26, 3) := by decide +kernel
theorem dX6_tellsToStop_62 : decode cX6_tellsToStop 62 = .ok (.iload_n 3, 1) := by decide +kernel
theorem dX6_tellsToStop_63 : decode cX6_tellsToStop 63 = .ok (.bipush 24, 2) := by decide +kernel
theorem dX6_tellsToStop_65 : decode cX6_tellsToStop 65 = .ok (.if_icmp .ge 18, 3) := by decide +kernel
theorem dX6_tellsToStop_68 : decode cX6_tellsToStop 68 = .ok (.aload_n 0, 1) := by decide +kernel
theorem dX6_tellsToStop_69 : decode cX6_tellsToStop 69 = .ok (.getfield 11, 3) := by decide +kernel
theorem dX6_tellsToStop_72 : decode cX6_tellsToStop 72 = .ok (.getfield 112, 3) := by decide +kernel
theorem dX6_tellsToStop_75 : decode cX6_tellsToStop 75 = .ok (.iload_n 3, 1) := by decide +kernel
theorem dX6_tellsToStop_76 : decode cX6_tellsToStop 76 = .ok (.iconst 1, 1) := by decide +kernel
theorem dX6_tellsToStop_77 : decode cX6_tellsToStop 77 = .ok (.iadd, 1) := by decide +kernel
theorem dX6_tellsToStop_78 : decode cX6_tellsToStop 78 = .ok (.iaload, 1) := by decide +kernel
theorem dX6_tellsToStop_79 : decode cX6_tellsToStop 79 = .ok (.iconst 5, 1) := by decide +kernel
theorem dX6_tellsToStop_80 : decode cX6_tellsToStop 80 = .ok (.if_icmp .gt 5, 3) := by decide +kernel
theorem dX6_tellsToStop_83 : decode cX6_tellsToStop 83 = .ok (.iconst 0, 1) := by decide +kernel
theorem dX6_tellsToStop_84 : decode cX6_tellsToStop 84 = .ok (.ireturn, 1) := by decide +kernel
theorem dX6_tellsToStop_85 : decode cX6_tellsToStop 85 = .ok (.iload_n 2, 1) := by decide +kernel
theorem dX6_tellsToStop_86 : decode cX6_tellsToStop 86 = .ok (.aload_n 0, 1) := by decide +kernel
theorem dX6_tellsToStop_87 : decode cX6_tellsToStop 87 = .ok (.getfield 15, 3) := by decide +kernel
theorem dX6_tellsToStop_90 : decode cX6_tellsToStop 90 = .ok (.getfield 49, 3) := by decide +kernel
theorem dX6_tellsToStop_93 : decode cX6_tellsToStop 93 = .ok (.if_icmp .eq 7, 3) := by decide +kernel
theorem dX6_tellsToStop_96 : decode cX6_tellsToStop 96 = .ok (.iconst 1, 1) := by decide +kernel
theorem dX6_tellsToStop_97 : decode cX6_tellsToStop 97 = .ok (.goto 4, 3) := by decide +kernel
theorem dX6_tellsToStop_100 : decode cX6_tellsToStop 100 = .ok (.iconst 0, 1) := by decide +kernel
theorem dX6_tellsToStop_101 : decode cX6_tellsToStop 101 = .ok (.ireturn, 1) := by decide +kernel
theorem dX6_struck_0 : decode cX6_struck 0 = .ok (.aload_n 0, 1) := by decide +kernel
theorem dX6_struck_1 : decode cX6_struck 1 = .ok (.getfield 15, 3) := by decide +kernel
theorem dX6_struck_4 : decode cX6_struck 4 = .ok (.getfield 49, 3) := by decide +kernel
theorem dX6_struck_7 : decode cX6_struck 7 = .ok (.iload_n 1, 1) := by decide +kernel
theorem dX6_struck_8 : decode cX6_struck 8 = .ok (.iconst (-1), 1) := by decide +kernel
theorem dX6_struck_9 : decode cX6_struck 9 = .ok (.ixor, 1) := by decide +kernel
theorem dX6_struck_10 : decode cX6_struck 10 = .ok (.iand, 1) := by decide +kernel
theorem dX6_struck_11 : decode cX6_struck 11 = .ok (.istore_n 2, 1) := by decide +kernel
theorem dX6_struck_12 : decode cX6_struck 12 = .ok (.iload_n 1, 1) := by decide +kernel
theorem dX6_struck_13 : decode cX6_struck 13 = .ok (.iload_n 2, 1) := by decide +kernel
theorem dX6_struck_14 : decode cX6_struck 14 = .ok (.iload_n 2, 1) := by decide +kernel
theorem dX6_struck_15 : decode cX6_struck 15 = .ok (.ineg, 1) := by decide +kernel
theorem dX6_struck_16 : decode cX6_struck 16 = .ok (.iand, 1) := by decide +kernel
theorem dX6_struck_17 : decode cX6_struck 17 = .ok (.ior, 1) := by decide +kernel
theorem dX6_struck_18 : decode cX6_struck 18 = .ok (.ireturn, 1) := by decide +kernel
theorem dX6_hasOneMatch_0 : decode cX6_hasOneMatch 0 = .ok (.iload_n 2, 1) := by decide +kernel
theorem dX6_hasOneMatch_1 : decode cX6_hasOneMatch 1 = .ok (.istore 4, 2) := by decide +kernel
theorem dX6_hasOneMatch_3 : decode cX6_hasOneMatch 3 = .ok (.iload_n 1, 1) := by decide +kernel
theorem dX6_hasOneMatch_4 : decode cX6_hasOneMatch 4 = .ok (.istore 5, 2) := by decide +kernel
theorem dX6_hasOneMatch_6 : decode cX6_hasOneMatch 6 = .ok (.iload 5, 2) := by decide +kernel
theorem dX6_hasOneMatch_8 : decode cX6_hasOneMatch 8 = .ok (.aload_n 0, 1) := by decide +kernel
theorem dX6_hasOneMatch_9 : decode cX6_hasOneMatch 9 = .ok (.getfield 15, 3) := by decide +kernel
theorem dX6_hasOneMatch_12 : decode cX6_hasOneMatch 12 = .ok (.getfield 27, 3) := by decide +kernel
theorem dX6_hasOneMatch_15 : decode cX6_hasOneMatch 15 = .ok (.if_icmp .ge 58, 3) := by decide +kernel
theorem dX6_hasOneMatch_18 : decode cX6_hasOneMatch 18 = .ok (.aload_n 0, 1) := by decide +kernel
theorem dX6_hasOneMatch_19 : decode cX6_hasOneMatch 19 = .ok (.getfield 15, 3) := by decide +kernel
theorem dX6_hasOneMatch_22 : decode cX6_hasOneMatch 22 = .ok (.iload 5, 2) := by decide +kernel
theorem dX6_hasOneMatch_24 : decode cX6_hasOneMatch 24 = .ok (.aload_n 0, 1) := by decide +kernel
theorem dX6_hasOneMatch_25 : decode cX6_hasOneMatch 25 = .ok (.iload 4, 2) := by decide +kernel
theorem dX6_hasOneMatch_27 : decode cX6_hasOneMatch 27 = .ok (.invokevirtual 100, 3) := by decide +kernel
theorem dX6_hasOneMatch_30 : decode cX6_hasOneMatch 30 = .ok (.invokevirtual 59, 3) := by decide +kernel
theorem dX6_hasOneMatch_33 : decode cX6_hasOneMatch 33 = .ok (.ifCond .eq 13, 3) := by decide +kernel
theorem dX6_hasOneMatch_36 : decode cX6_hasOneMatch 36 = .ok (.aload_n 0, 1) := by decide +kernel
theorem dX6_hasOneMatch_37 : decode cX6_hasOneMatch 37 = .ok (.getfield 19, 3) := by decide +kernel
theorem dX6_hasOneMatch_40 : decode cX6_hasOneMatch 40 = .ok (.iload_n 3, 1) := by decide +kernel
theorem dX6_hasOneMatch_41 : decode cX6_hasOneMatch 41 = .ok (.iload 5, 2) := by decide +kernel
theorem dX6_hasOneMatch_43 : decode cX6_hasOneMatch 43 = .ok (.iastore, 1) := by decide +kernel
theorem dX6_hasOneMatch_44 : decode cX6_hasOneMatch 44 = .ok (.iconst 1, 1) := by decide +kernel
theorem dX6_hasOneMatch_45 : decode cX6_hasOneMatch 45 = .ok (.ireturn, 1) := by decide +kernel
theorem dX6_hasOneMatch_46 : decode cX6_hasOneMatch 46 = .ok (.aload_n 0, 1) := by decide +kernel
theorem dX6_hasOneMatch_47 : decode cX6_hasOneMatch 47 = .ok (.getfield 15, 3) := by decide +kernel
theorem dX6_hasOneMatch_50 : decode cX6_hasOneMatch 50 = .ok (.aload_n 0, 1) := by decide +kernel
theorem dX6_hasOneMatch_51 : decode cX6_hasOneMatch 51 = .ok (.getfield 15, 3) := by decide +kernel
theorem dX6_hasOneMatch_54 : decode cX6_hasOneMatch 54 = .ok (.getfield 43, 3) := by decide +kernel
theorem dX6_hasOneMatch_57 : decode cX6_hasOneMatch 57 = .ok (.iload 5, 2) := by decide +kernel
theorem dX6_hasOneMatch_59 : decode cX6_hasOneMatch 59 = .ok (.iadd, 1) := by decide +kernel
theorem dX6_hasOneMatch_60 : decode cX6_hasOneMatch 60 = .ok (.iload 4, 2) := by decide +kernel
theorem dX6_hasOneMatch_62 : decode cX6_hasOneMatch 62 = .ok (.invokevirtual 81, 3) := by decide +kernel
theorem dX6_hasOneMatch_65 : decode cX6_hasOneMatch 65 = .ok (.istore 4, 2) := by decide +kernel
theorem dX6_hasOneMatch_67 : decode cX6_hasOneMatch 67 = .ok (.iinc 5 1, 3) := by decide +kernel
theorem dX6_hasOneMatch_70 : decode cX6_hasOneMatch 70 = .ok (.goto (-64), 3) := by decide +kernel
theorem dX6_hasOneMatch_73 : decode cX6_hasOneMatch 73 = .ok (.iconst 0, 1) := by decide +kernel
theorem dX6_hasOneMatch_74 : decode cX6_hasOneMatch 74 = .ok (.ireturn, 1) := by decide +kernel
theorem dX6_hasTwoMatches_0 : decode cX6_hasTwoMatches 0 = .ok (.iload_n 2, 1) := by decide +kernel
theorem dX6_hasTwoMatches_1 : decode cX6_hasTwoMatches 1 = .ok (.istore 4, 2) := by decide +kernel
theorem dX6_hasTwoMatches_3 : decode cX6_hasTwoMatches 3 = .ok (.iload_n 1, 1) := by decide +kernel
theorem dX6_hasTwoMatches_4 : decode cX6_hasTwoMatches 4 = .ok (.istore 5, 2) := by decide +kernel
theorem dX6_hasTwoMatches_6 : decode cX6_hasTwoMatches 6 = .ok (.iload 5, 2) := by decide +kernel
theorem dX6_hasTwoMatches_8 : decode cX6_hasTwoMatches 8 = .ok (.aload_n 0, 1) := by decide +kernel
theorem dX6_hasTwoMatches_9 : decode cX6_hasTwoMatches 9 = .ok (.getfield 15, 3) := by decide +kernel
theorem dX6_hasTwoMatches_12 : decode cX6_hasTwoMatches 12 = .ok (.getfield 27, 3) := by decide +kernel
theorem dX6_hasTwoMatches_15 : decode cX6_hasTwoMatches 15 = .ok (.if_icmp .ge 81, 3) := by decide +kernel
theorem dX6_hasTwoMatches_18 : decode cX6_hasTwoMatches 18 = .ok (.aload_n 0, 1) := by decide +kernel
theorem dX6_hasTwoMatches_19 : decode cX6_hasTwoMatches 19 = .ok (.getfield 15, 3) := by decide +kernel
theorem dX6_hasTwoMatches_22 : decode cX6_hasTwoMatches 22 = .ok (.aload_n 0, 1) := by decide +kernel
theorem dX6_hasTwoMatches_23 : decode cX6_hasTwoMatches 23 = .ok (.getfield 15, 3) := by decide +kernel
theorem dX6_hasTwoMatches_26 : decode cX6_hasTwoMatches 26 = .ok (.getfield 43, 3) := by decide +kernel
theorem dX6_hasTwoMatches_29 : decode cX6_hasTwoMatches 29 = .ok (.iload 5, 2) := by decide +kernel
theorem dX6_hasTwoMatches_31 : decode cX6_hasTwoMatches 31 = .ok (.iadd, 1) := by decide +kernel
theorem dX6_hasTwoMatches_32 : decode cX6_hasTwoMatches 32 = .ok (.aload_n 0, 1) := by decide +kernel
theorem dX6_hasTwoMatches_33 : decode cX6_hasTwoMatches 33 = .ok (.iload 4, 2) := by decide +kernel
theorem dX6_hasTwoMatches_35 : decode cX6_hasTwoMatches 35 = .ok (.invokevirtual 100, 3) := by decide +kernel
theorem dX6_hasTwoMatches_38 : decode cX6_hasTwoMatches 38 = .ok (.invokevirtual 81, 3) := by decide +kernel
theorem dX6_hasTwoMatches_41 : decode cX6_hasTwoMatches 41 = .ok (.istore 6, 2) := by decide +kernel
theorem dX6_hasTwoMatches_43 : decode cX6_hasTwoMatches 43 = .ok (.aload_n 0, 1) := by decide +kernel
theorem dX6_hasTwoMatches_44 : decode cX6_hasTwoMatches 44 = .ok (.iload 5, 2) := by decide +kernel
theorem dX6_hasTwoMatches_46 : decode cX6_hasTwoMatches 46 = .ok (.iconst 1, 1) := by decide +kernel
theorem dX6_hasTwoMatches_47 : decode cX6_hasTwoMatches 47 = .ok (.iadd, 1) := by decide +kernel
theorem dX6_hasTwoMatches_48 : decode cX6_hasTwoMatches 48 = .ok (.iload 6, 2) := by decide +kernel
theorem dX6_hasTwoMatches_50 : decode cX6_hasTwoMatches 50 = .ok (.iload_n 3, 1) := by decide +kernel
theorem dX6_hasTwoMatches_51 : decode cX6_hasTwoMatches 51 = .ok (.iconst 1, 1) := by decide +kernel
theorem dX6_hasTwoMatches_52 : decode cX6_hasTwoMatches 52 = .ok (.iadd, 1) := by decide +kernel
theorem dX6_hasTwoMatches_53 : decode cX6_hasTwoMatches 53 = .ok (.invokevirtual 94, 3) := by decide +kernel
theorem dX6_hasTwoMatches_56 : decode cX6_hasTwoMatches 56 = .ok (.ifCond .eq 13, 3) := by decide +kernel
theorem dX6_hasTwoMatches_59 : decode cX6_hasTwoMatches 59 = .ok (.aload_n 0, 1) := by decide +kernel
theorem dX6_hasTwoMatches_60 : decode cX6_hasTwoMatches 60 = .ok (.getfield 19, 3) := by decide +kernel
theorem dX6_hasTwoMatches_63 : decode cX6_hasTwoMatches 63 = .ok (.iload_n 3, 1) := by decide +kernel
theorem dX6_hasTwoMatches_64 : decode cX6_hasTwoMatches 64 = .ok (.iload 5, 2) := by decide +kernel
theorem dX6_hasTwoMatches_66 : decode cX6_hasTwoMatches 66 = .ok (.iastore, 1) := by decide +kernel
theorem dX6_hasTwoMatches_67 : decode cX6_hasTwoMatches 67 = .ok (.iconst 1, 1) := by decide +kernel
theorem dX6_hasTwoMatches_68 : decode cX6_hasTwoMatches 68 = .ok (.ireturn, 1) := by decide +kernel
theorem dX6_hasTwoMatches_69 : decode cX6_hasTwoMatches 69 = .ok (.aload_n 0, 1) := by decide +kernel
theorem dX6_hasTwoMatches_70 : decode cX6_hasTwoMatches 70 = .ok (.getfield 15, 3) := by decide +kernel
theorem dX6_hasTwoMatches_73 : decode cX6_hasTwoMatches 73 = .ok (.aload_n 0, 1) := by decide +kernel
theorem dX6_hasTwoMatches_74 : decode cX6_hasTwoMatches 74 = .ok (.getfield 15, 3) := by decide +kernel
theorem dX6_hasTwoMatches_77 : decode cX6_hasTwoMatches 77 = .ok (.getfield 43, 3) := by decide +kernel
theorem dX6_hasTwoMatches_80 : decode cX6_hasTwoMatches 80 = .ok (.iload 5, 2) := by decide +kernel
theorem dX6_hasTwoMatches_82 : decode cX6_hasTwoMatches 82 = .ok (.iadd, 1) := by decide +kernel
theorem dX6_hasTwoMatches_83 : decode cX6_hasTwoMatches 83 = .ok (.iload 4, 2) := by decide +kernel
theorem dX6_hasTwoMatches_85 : decode cX6_hasTwoMatches 85 = .ok (.invokevirtual 81, 3) := by decide +kernel
theorem dX6_hasTwoMatches_88 : decode cX6_hasTwoMatches 88 = .ok (.istore 4, 2) := by decide +kernel
theorem dX6_hasTwoMatches_90 : decode cX6_hasTwoMatches 90 = .ok (.iinc 5 1, 3) := by decide +kernel
theorem dX6_hasTwoMatches_93 : decode cX6_hasTwoMatches 93 = .ok (.goto (-87), 3) := by decide +kernel
theorem dX6_hasTwoMatches_96 : decode cX6_hasTwoMatches 96 = .ok (.iconst 0, 1) := by decide +kernel
theorem dX6_hasTwoMatches_97 : decode cX6_hasTwoMatches 97 = .ok (.ireturn, 1) := by decide +kernel
theorem dX7_init_0 : decode cX7_init 0 = .ok (.aload_n 0, 1) := by decide +kernel
theorem dX7_init_1 : decode cX7_init 1 = .ok (.invokespecial 3, 3) := by decide +kernel
theorem dX7_init_4 : decode cX7_init 4 = .ok (.aload_n 0, 1) := by decide +kernel
theorem dX7_init_5 : decode cX7_init 5 = .ok (.bipush 12, 2) := by decide +kernel
theorem dX7_init_7 : decode cX7_init 7 = .ok (.newarray .int, 2) := by decide +kernel
theorem dX7_init_9 : decode cX7_init 9 = .ok (.putfield 9, 3) := by decide +kernel
theorem dX7_init_12 : decode cX7_init 12 = .ok (.return_, 1) := by decide +kernel
theorem dX7_isFull_0 : decode cX7_isFull 0 = .ok (.aload_n 0, 1) := by decide +kernel
theorem dX7_isFull_1 : decode cX7_isFull 1 = .ok (.getfield 15, 3) := by decide +kernel
theorem dX7_isFull_4 : decode cX7_isFull 4 = .ok (.bipush 12, 2) := by decide +kernel
theorem dX7_isFull_6 : decode cX7_isFull 6 = .ok (.if_icmp .lt 7, 3) := by decide +kernel
theorem dX7_isFull_9 : decode cX7_isFull 9 = .ok (.iconst 1, 1) := by decide +kernel
theorem dX7_isFull_10 : decode cX7_isFull 10 = .ok (.goto 4, 3) := by decide +kernel
theorem dX7_isFull_13 : decode cX7_isFull 13 = .ok (.iconst 0, 1) := by decide +kernel
theorem dX7_isFull_14 : decode cX7_isFull 14 = .ok (.ireturn, 1) := by decide +kernel
theorem dX7_append_0 : decode cX7_append 0 = .ok (.aload_n 0, 1) := by decide +kernel
theorem dX7_append_1 : decode cX7_append 1 = .ok (.invokevirtual 19, 3) := by decide +kernel
theorem dX7_append_4 : decode cX7_append 4 = .ok (.ifCond .ne 23, 3) := by decide +kernel
theorem dX7_append_7 : decode cX7_append 7 = .ok (.aload_n 0, 1) := by decide +kernel
theorem dX7_append_8 : decode cX7_append 8 = .ok (.getfield 9, 3) := by decide +kernel
theorem dX7_append_11 : decode cX7_append 11 = .ok (.aload_n 0, 1) := by decide +kernel
theorem dX7_append_12 : decode cX7_append 12 = .ok (.getfield 15, 3) := by decide +kernel
theorem dX7_append_15 : decode cX7_append 15 = .ok (.iload_n 1, 1) := by decide +kernel
theorem dX7_append_16 : decode cX7_append 16 = .ok (.iastore, 1) := by decide +kernel
theorem dX7_append_17 : decode cX7_append 17 = .ok (.aload_n 0, 1) := by decide +kernel
theorem dX7_append_18 : decode cX7_append 18 = .ok (.dup, 1) := by decide +kernel
theorem dX7_append_19 : decode cX7_append 19 = .ok (.getfield 15, 3) := by decide +kernel
theorem dX7_append_22 : decode cX7_append 22 = .ok (.iconst 1, 1) := by decide +kernel
theorem dX7_append_23 : decode cX7_append 23 = .ok (.iadd, 1) := by decide +kernel
theorem dX7_append_24 : decode cX7_append 24 = .ok (.putfield 15, 3) := by decide +kernel
theorem dX7_append_27 : decode cX7_append 27 = .ok (.aload_n 0, 1) := by decide +kernel
theorem dX7_append_28 : decode cX7_append 28 = .ok (.getfield 15, 3) := by decide +kernel
theorem dX7_append_31 : decode cX7_append 31 = .ok (.ireturn, 1) := by decide +kernel
theorem dX8_init_0 : decode cX8_init 0 = .ok (.aload_n 0, 1) := by decide +kernel
theorem dX8_init_1 : decode cX8_init 1 = .ok (.invokespecial 3, 3) := by decide +kernel
theorem dX8_init_4 : decode cX8_init 4 = .ok (.aload_n 0, 1) := by decide +kernel
theorem dX8_init_5 : decode cX8_init 5 = .ok (.bipush 8, 2) := by decide +kernel
theorem dX8_init_7 : decode cX8_init 7 = .ok (.newarray .int, 2) := by decide +kernel
theorem dX8_init_9 : decode cX8_init 9 = .ok (.putfield 9, 3) := by decide +kernel
theorem dX8_init_12 : decode cX8_init 12 = .ok (.aload_n 0, 1) := by decide +kernel
theorem dX8_init_13 : decode cX8_init 13 = .ok (.bipush 25, 2) := by decide +kernel
theorem dX8_init_15 : decode cX8_init 15 = .ok (.newarray .int, 2) := by decide +kernel
theorem dX8_init_17 : decode cX8_init 17 = .ok (.putfield 15, 3) := by decide +kernel
theorem dX8_init_20 : decode cX8_init 20 = .ok (.aload_n 0, 1) := by decide +kernel
theorem dX8_init_21 : decode cX8_init 21 = .ok (.bipush 25, 2) := by decide +kernel
theorem dX8_init_23 : decode cX8_init 23 = .ok (.newarray .int, 2) := by decide +kernel
theorem dX8_init_25 : decode cX8_init 25 = .ok (.putfield 18, 3) := by decide +kernel
theorem dX8_init_28 : decode cX8_init 28 = .ok (.aload_n 0, 1) := by decide +kernel
theorem dX8_init_29 : decode cX8_init 29 = .ok (.bipush 8, 2) := by decide +kernel
theorem dX8_init_31 : decode cX8_init 31 = .ok (.newarray .int, 2) := by decide +kernel
theorem dX8_init_33 : decode cX8_init 33 = .ok (.putfield 21, 3) := by decide +kernel
theorem dX8_init_36 : decode cX8_init 36 = .ok (.aload_n 0, 1) := by decide +kernel
theorem dX8_init_37 : decode cX8_init 37 = .ok (.bipush 24, 2) := by decide +kernel
theorem dX8_init_39 : decode cX8_init 39 = .ok (.newarray .int, 2) := by decide +kernel
theorem dX8_init_41 : decode cX8_init 41 = .ok (.putfield 24, 3) := by decide +kernel
theorem dX8_init_44 : decode cX8_init 44 = .ok (.return_, 1) := by decide +kernel
theorem dX8_setOut_0 : decode cX8_setOut 0 = .ok (.aload_n 0, 1) := by decide +kernel
theorem dX8_setOut_1 : decode cX8_setOut 1 = .ok (.aload_n 1, 1) := by decide +kernel
theorem dX8_setOut_2 : decode cX8_setOut 2 = .ok (.getfield 27, 3) := by decide +kernel
theorem dX8_setOut_5 : decode cX8_setOut 5 = .ok (.putfield 33, 3) := by decide +kernel
theorem dX8_setOut_8 : decode cX8_setOut 8 = .ok (.aload_n 0, 1) := by decide +kernel
theorem dX8_setOut_9 : decode cX8_setOut 9 = .ok (.aload_n 1, 1) := by decide +kernel
theorem dX8_setOut_10 : decode cX8_setOut 10 = .ok (.invokevirtual 34, 3) := by decide +kernel
theorem dX8_setOut_13 : decode cX8_setOut 13 = .ok (.putfield 38, 3) := by decide +kernel
theorem dX8_setOut_16 : decode cX8_setOut 16 = .ok (.aload_n 0, 1) := by decide +kernel
theorem dX8_setOut_17 : decode cX8_setOut 17 = .ok (.aload_n 1, 1) := by decide +kernel
theorem dX8_setOut_18 : decode cX8_setOut 18 = .ok (.getfield 41, 3) := by decide +kernel
theorem dX8_setOut_21 : decode cX8_setOut 21 = .ok (.putfield 44, 3) := by decide +kernel
theorem dX8_setOut_24 : decode cX8_setOut 24 = .ok (.aload_n 0, 1) := by decide +kernel
theorem dX8_setOut_25 : decode cX8_setOut 25 = .ok (.aload_n 1, 1) := by decide +kernel
theorem dX8_setOut_26 : decode cX8_setOut 26 = .ok (.getfield 45, 3) := by decide +kernel
theorem dX8_setOut_29 : decode cX8_setOut 29 = .ok (.putfield 48, 3) := by decide +kernel
theorem dX8_setOut_32 : decode cX8_setOut 32 = .ok (.aload_n 0, 1) := by decide +kernel
theorem dX8_setOut_33 : decode cX8_setOut 33 = .ok (.iconst 0, 1) := by decide +kernel
theorem dX8_setOut_34 : decode cX8_setOut 34 = .ok (.aload_n 1, 1) := by decide +kernel
theorem dX8_setOut_35 : decode cX8_setOut 35 = .ok (.getfield 51, 3) := by decide +kernel
theorem dX8_setOut_38 : decode cX8_setOut 38 = .ok (.aload_n 1, 1) := by decide +kernel
theorem dX8_setOut_39 : decode cX8_setOut 39 = .ok (.getfield 45, 3) := by decide +kernel
theorem dX8_setOut_42 : decode cX8_setOut 42 = .ok (.isub, 1) := by decide +kernel
theorem dX8_setOut_43 : decode cX8_setOut 43 = .ok (.invokestatic 54, 3) := by decide +kernel
theorem dX8_setOut_46 : decode cX8_setOut 46 = .ok (.putfield 60, 3) := by decide +kernel
theorem dX8_setOut_49 : decode cX8_setOut 49 = .ok (.iconst 0, 1) := by decide +kernel
theorem dX8_setOut_50 : decode cX8_setOut 50 = .ok (.istore_n 2, 1) := by decide +kernel
theorem dX8_setOut_51 : decode cX8_setOut 51 = .ok (.iload_n 2, 1) := by decide +kernel
theorem dX8_setOut_52 : decode cX8_setOut 52 = .ok (.aload_n 0, 1) := by decide +kernel
theorem dX8_setOut_53 : decode cX8_setOut 53 = .ok (.getfield 33, 3) := by decide +kernel
theorem dX8_setOut_56 : decode cX8_setOut 56 = .ok (.if_icmp .ge 62, 3) := by decide +kernel
theorem dX8_setOut_59 : decode cX8_setOut 59 = .ok (.aload_n 0, 1) := by decide +kernel
theorem dX8_setOut_60 : decode cX8_setOut 60 = .ok (.getfield 21, 3) := by decide +kernel
theorem dX8_setOut_63 : decode cX8_setOut 63 = .ok (.iload_n 2, 1) := by decide +kernel
theorem dX8_setOut_64 : decode cX8_setOut 64 = .ok (.aload_n 1, 1) := by decide +kernel
theorem dX8_setOut_65 : decode cX8_setOut 65 = .ok (.iload_n 2, 1) := by decide +kernel
theorem dX8_setOut_66 : decode cX8_setOut 66 = .ok (.invokevirtual 63, 3) := by decide +kernel
theorem dX8_setOut_69 : decode cX8_setOut 69 = .ok (.iastore, 1) := by decide +kernel
theorem dX8_setOut_70 : decode cX8_setOut 70 = .ok (.aload_n 1, 1) := by decide +kernel
theorem dX8_setOut_71 : decode cX8_setOut 71 = .ok (.iload_n 2, 1) := by decide +kernel
theorem dX8_setOut_72 : decode cX8_setOut 72 = .ok (.invokevirtual 67, 3) := by decide +kernel
theorem dX8_setOut_75 : decode cX8_setOut 75 = .ok (.istore_n 3, 1) := by decide +kernel
theorem dX8_setOut_76 : decode cX8_setOut 76 = .ok (.iconst 0, 1) := by decide +kernel
theorem dX8_setOut_77 : decode cX8_setOut 77 = .ok (.istore 4, 2) := by decide +kernel
theorem dX8_setOut_79 : decode cX8_setOut 79 = .ok (.iload 4, 2) := by decide +kernel
theorem dX8_setOut_81 : decode cX8_setOut 81 = .ok (.iconst 2, 1) := by decide +kernel
theorem dX8_setOut_82 : decode cX8_setOut 82 = .ok (.if_icmp .gt 30, 3) := by decide +kernel
theorem dX8_setOut_85 : decode cX8_setOut 85 = .ok (.aload_n 0, 1) := by decide +kernel
theorem dX8_setOut_86 : decode cX8_setOut 86 = .ok (.getfield 24, 3) := by decide +kernel
theorem dX8_setOut_89 : decode cX8_setOut 89 = .ok (.bipush 8, 2) := by decide +kernel
theorem dX8_setOut_91 : decode cX8_setOut 91 = .ok (.iload 4, 2) := by decide +kernel
theorem dX8_setOut_93 : decode cX8_setOut 93 = .ok (.imul, 1) := by decide +kernel
theorem dX8_setOut_94 : decode cX8_setOut 94 = .ok (.iload_n 2, 1) := by decide +kernel
theorem dX8_setOut_95 : decode cX8_setOut 95 = .ok (.iadd, 1) := by decide +kernel
theorem dX8_setOut_96 : decode cX8_setOut 96 = .ok (.iload_n 3, 1) := by decide +kernel
theorem dX8_setOut_97 : decode cX8_setOut 97 = .ok (.aload_n 1, 1) := by decide +kernel
theorem dX8_setOut_98 : decode cX8_setOut 98 = .ok (.iload_n 2, 1) := by decide +kernel
theorem dX8_setOut_99 : decode cX8_setOut 99 = .ok (.iload 4, 2) := by decide +kernel
theorem dX8_setOut_101 : decode cX8_setOut 101 = .ok (.invokevirtual 70, 3) := by decide +kernel
theorem dX8_setOut_104 : decode cX8_setOut 104 = .ok (.iadd, 1) := by decide +kernel
theorem dX8_setOut_105 : decode cX8_setOut 105 = .ok (.iastore, 1) := by decide +kernel
theorem dX8_setOut_106 : decode cX8_setOut 106 = .ok (.iinc 4 1, 3) := by decide +kernel
theorem dX8_setOut_109 : decode cX8_setOut 109 = .ok (.goto (-30), 3) := by decide +kernel
theorem dX8_setOut_112 : decode cX8_setOut 112 = .ok (.iinc 2 1, 3) := by decide +kernel
theorem dX8_setOut_115 : decode cX8_setOut 115 = .ok (.goto (-64), 3) := by decide +kernel
theorem dX8_setOut_118 : decode cX8_setOut 118 = .ok (.aload_n 1, 1) := by decide +kernel
theorem dX8_setOut_119 : decode cX8_setOut 119 = .ok (.getfield 45, 3) := by decide +kernel
theorem dX8_setOut_122 : decode cX8_setOut 122 = .ok (.istore_n 2, 1) := by decide +kernel
theorem dX8_setOut_123 : decode cX8_setOut 123 = .ok (.iload_n 2, 1) := by decide +kernel
theorem dX8_setOut_124 : decode cX8_setOut 124 = .ok (.aload_n 1, 1) := by decide +kernel
theorem dX8_setOut_125 : decode cX8_setOut 125 = .ok (.getfield 51, 3) := by decide +kernel
theorem dX8_setOut_128 : decode cX8_setOut 128 = .ok (.if_icmp .ge 31, 3) := by decide +kernel
theorem dX8_setOut_131 : decode cX8_setOut 131 = .ok (.aload_n 0, 1) := by decide +kernel
theorem dX8_setOut_132 : decode cX8_setOut 132 = .ok (.getfield 18, 3) := by decide +kernel
theorem dX8_setOut_135 : decode cX8_setOut 135 = .ok (.iload_n 2, 1) := by decide +kernel
theorem dX8_setOut_136 : decode cX8_setOut 136 = .ok (.aload_n 0, 1) := by decide +kernel
theorem dX8_setOut_137 : decode cX8_setOut 137 = .ok (.aload_n 1, 1) := by decide +kernel
theorem dX8_setOut_138 : decode cX8_setOut 138 = .ok (.getfield 73, 3) := by decide +kernel
theorem dX8_setOut_141 : decode cX8_setOut 141 = .ok (.iload_n 2, 1) := by decide +kernel
theorem dX8_setOut_142 : decode cX8_setOut 142 = .ok (.iaload, 1) := by decide +kernel
theorem dX8_setOut_143 : decode cX8_setOut 143 = .ok (.aload_n 1, 1) := by decide +kernel
theorem dX8_setOut_144 : decode cX8_setOut 144 = .ok (.getfield 76, 3) := by decide +kernel
theorem dX8_setOut_147 : decode cX8_setOut 147 = .ok (.iload_n 2, 1) := by decide +kernel
theorem dX8_setOut_148 : decode cX8_setOut 148 = .ok (.iaload, 1) := by decide +kernel
theorem dX8_setOut_149 : decode cX8_setOut 149 = .ok (.invokevirtual 79, 3) := by decide +kernel
theorem dX8_setOut_152 : decode cX8_setOut 152 = .ok (.iastore, 1) := by decide +kernel
theorem dX8_setOut_153 : decode cX8_setOut 153 = .ok (.iinc 2 1, 3) := by decide +kernel
theorem dX8_setOut_156 : decode cX8_setOut 156 = .ok (.goto (-33), 3) := by decide +kernel
theorem dX8_setOut_159 : decode cX8_setOut 159 = .ok (.return_, 1) := by decide +kernel
theorem dX8_minuteAt_0 : decode cX8_minuteAt 0 = .ok (.aload_n 0, 1) := by decide +kernel
theorem dX8_minuteAt_1 : decode cX8_minuteAt 1 = .ok (.iload_n 2, 1) := by decide +kernel
theorem dX8_minuteAt_2 : decode cX8_minuteAt 2 = .ok (.aload_n 0, 1) := by decide +kernel
theorem dX8_minuteAt_3 : decode cX8_minuteAt 3 = .ok (.getfield 18, 3) := by decide +kernel
theorem dX8_minuteAt_6 : decode cX8_minuteAt 6 = .ok (.iload_n 1, 1) := by decide +kernel
theorem dX8_minuteAt_7 : decode cX8_minuteAt 7 = .ok (.iaload, 1) := by decide +kernel
theorem dX8_minuteAt_8 : decode cX8_minuteAt 8 = .ok (.iand, 1) := by decide +kernel
theorem dX8_minuteAt_9 : decode cX8_minuteAt 9 = .ok (.putfield 82, 3) := by decide +kernel
theorem dX8_minuteAt_12 : decode cX8_minuteAt 12 = .ok (.aload_n 0, 1) := by decide +kernel
theorem dX8_minuteAt_13 : decode cX8_minuteAt 13 = .ok (.iload_n 2, 1) := by decide +kernel
theorem dX8_minuteAt_14 : decode cX8_minuteAt 14 = .ok (.aload_n 0, 1) := by decide +kernel
theorem dX8_minuteAt_15 : decode cX8_minuteAt 15 = .ok (.getfield 82, 3) := by decide +kernel
theorem dX8_minuteAt_18 : decode cX8_minuteAt 18 = .ok (.iconst (-1), 1) := by decide +kernel
theorem dX8_minuteAt_19 : decode cX8_minuteAt 19 = .ok (.ixor, 1) := by decide +kernel
theorem dX8_minuteAt_20 : decode cX8_minuteAt 20 = .ok (.iand, 1) := by decide +kernel
theorem dX8_minuteAt_21 : decode cX8_minuteAt 21 = .ok (.invokevirtual 85, 3) := by decide +kernel
theorem dX8_minuteAt_24 : decode cX8_minuteAt 24 = .ok (.ireturn, 1) := by decide +kernel
theorem dX8_relight_0 : decode cX8_relight 0 = .ok (.aload_n 0, 1) := by decide +kernel
theorem dX8_relight_1 : decode cX8_relight 1 = .ok (.iconst 0, 1) := by decide +kernel
theorem dX8_relight_2 : decode cX8_relight 2 = .ok (.putfield 88, 3) := by decide +kernel
theorem dX8_relight_5 : decode cX8_relight 5 = .ok (.iconst 0, 1) := by decide +kernel
theorem dX8_relight_6 : decode cX8_relight 6 = .ok (.istore_n 2, 1) := by decide +kernel
theorem dX8_relight_7 : decode cX8_relight 7 = .ok (.iload_n 2, 1) := by decide +kernel
theorem dX8_relight_8 : decode cX8_relight 8 = .ok (.aload_n 0, 1) := by decide +kernel
theorem dX8_relight_9 : decode cX8_relight 9 = .ok (.getfield 33, 3) := by decide +kernel
theorem dX8_relight_12 : decode cX8_relight 12 = .ok (.if_icmp .ge 101, 3) := by decide +kernel
theorem dX8_relight_15 : decode cX8_relight 15 = .ok (.iload_n 1, 1) := by decide +kernel
theorem dX8_relight_16 : decode cX8_relight 16 = .ok (.iload_n 2, 1) := by decide +kernel
theorem dX8_relight_17 : decode cX8_relight 17 = .ok (.invokestatic 91, 3) := by decide +kernel
theorem dX8_relight_20 : decode cX8_relight 20 = .ok (.ifCond .eq 26, 3) := by decide +kernel
theorem dX8_relight_23 : decode cX8_relight 23 = .ok (.aload_n 0, 1) := by decide +kernel
theorem dX8_relight_24 : decode cX8_relight 24 = .ok (.getfield 21, 3) := by decide +kernel
theorem dX8_relight_27 : decode cX8_relight 27 = .ok (.iload_n 2, 1) := by decide +kernel
theorem dX8_relight_28 : decode cX8_relight 28 = .ok (.iaload, 1) := by decide +kernel
theorem dX8_relight_29 : decode cX8_relight 29 = .ok (.aload_n 0, 1) := by decide +kernel
theorem dX8_relight_30 : decode cX8_relight 30 = .ok (.getfield 38, 3) := by decide +kernel
theorem dX8_relight_33 : decode cX8_relight 33 = .ok (.iand, 1) := by decide +kernel
theorem dX8_relight_34 : decode cX8_relight 34 = .ok (.iload_n 1, 1) := by decide +kernel
theorem dX8_relight_35 : decode cX8_relight 35 = .ok (.aload_n 0, 1) := by decide +kernel
theorem dX8_relight_36 : decode cX8_relight 36 = .ok (.getfield 88, 3) := by decide +kernel
theorem dX8_relight_39 : decode cX8_relight 39 = .ok (.ior, 1) := by decide +kernel
theorem dX8_relight_40 : decode cX8_relight 40 = .ok (.iconst (-1), 1) := by decide +kernel
theorem dX8_relight_41 : decode cX8_relight 41 = .ok (.ixor, 1) := by decide +kernel
theorem dX8_relight_42 : decode cX8_relight 42 = .ok (.iand, 1) := by decide +kernel
theorem dX8_relight_43 : decode cX8_relight 43 = .ok (.goto 4, 3) := by decide +kernel
theorem dX8_relight_46 : decode cX8_relight 46 = .ok (.iconst 0, 1) := by decide +kernel
theorem dX8_relight_47 : decode cX8_relight 47 = .ok (.istore_n 3, 1) := by decide +kernel
theorem dX8_relight_48 : decode cX8_relight 48 = .ok (.iconst 0, 1) := by decide +kernel
theorem dX8_relight_49 : decode cX8_relight 49 = .ok (.istore 4, 2) := by decide +kernel
theorem dX8_relight_51 : decode cX8_relight 51 = .ok (.iload 4, 2) := by decide +kernel
theorem dX8_relight_53 : decode cX8_relight 53 = .ok (.aload_n 0, 1) := by decide +kernel
theorem dX8_relight_54 : decode cX8_relight 54 = .ok (.getfield 44, 3) := by decide +kernel
theorem dX8_relight_57 : decode cX8_relight 57 = .ok (.if_icmp .ge 50, 3) := by decide +kernel
theorem dX8_relight_60 : decode cX8_relight 60 = .ok (.iload_n 3, 1) := by decide +kernel
theorem dX8_relight_61 : decode cX8_relight 61 = .ok (.ifCond .eq 46, 3) := by decide +kernel
theorem dX8_relight_64 : decode cX8_relight 64 = .ok (.iload_n 3, 1) := by decide +kernel
theorem dX8_relight_65 : decode cX8_relight 65 = .ok (.iload_n 3, 1) := by decide +kernel
theorem dX8_relight_66 : decode cX8_relight 66 = .ok (.ineg, 1) := by decide +kernel
theorem dX8_relight_67 : decode cX8_relight 67 = .ok (.iand, 1) := by decide +kernel
theorem dX8_relight_68 : decode cX8_relight 68 = .ok (.istore 5, 2) := by decide +kernel
theorem dX8_relight_70 : decode cX8_relight 70 = .ok (.aload_n 0, 1) := by decide +kernel
theorem dX8_relight_71 : decode cX8_relight 71 = .ok (.getfield 9, 3) := by decide +kernel
theorem dX8_relight_74 : decode cX8_relight 74 = .ok (.iload 5, 2) := by decide +kernel
theorem dX8_relight_76 : decode cX8_relight 76 = .ok (.iconst 1, 1) := by decide +kernel
theorem dX8_relight_77 : decode cX8_relight 77 = .ok (.isub, 1) := by decide +kernel
theorem dX8_relight_78 : decode cX8_relight 78 = .ok (.invokestatic 95, 3) := by decide +kernel
theorem dX8_relight_81 : decode cX8_relight 81 = .ok (.iload_n 2, 1) := by decide +kernel
theorem dX8_relight_82 : decode cX8_relight 82 = .ok (.iastore, 1) := by decide +kernel
theorem dX8_relight_83 : decode cX8_relight 83 = .ok (.aload_n 0, 1) := by decide +kernel
theorem dX8_relight_84 : decode cX8_relight 84 = .ok (.dup, 1) := by decide +kernel
theorem dX8_relight_85 : decode cX8_relight 85 = .ok (.getfield 88, 3) := by decide +kernel
theorem dX8_relight_88 : decode cX8_relight 88 = .ok (.iload 5, 2) := by decide +kernel
theorem dX8_relight_90 : decode cX8_relight 90 = .ok (.ior, 1) := by decide +kernel
theorem dX8_relight_91 : decode cX8_relight 91 = .ok (.putfield 88, 3) := by decide +kernel
theorem dX8_relight_94 : decode cX8_relight 94 = .ok (.iload_n 3, 1) := by decide +kernel
theorem dX8_relight_95 : decode cX8_relight 95 = .ok (.iload 5, 2) := by decide +kernel
theorem dX8_relight_97 : decode cX8_relight 97 = .ok (.iconst (-1), 1) := by decide +kernel
theorem dX8_relight_98 : decode cX8_relight 98 = .ok (.ixor, 1) := by decide +kernel
theorem dX8_relight_99 : decode cX8_relight 99 = .ok (.iand, 1) := by decide +kernel
theorem dX8_relight_100 : decode cX8_relight 100 = .ok (.istore_n 3, 1) := by decide +kernel
theorem dX8_relight_101 : decode cX8_relight 101 = .ok (.iinc 4 1, 3) := by decide +kernel
theorem dX8_relight_104 : decode cX8_relight 104 = .ok (.goto (-53), 3) := by decide +kernel
theorem dX8_relight_107 : decode cX8_relight 107 = .ok (.iinc 2 1, 3) := by decide +kernel
theorem dX8_relight_110 : decode cX8_relight 110 = .ok (.goto (-103), 3) := by decide +kernel
theorem dX8_relight_113 : decode cX8_relight 113 = .ok (.iload_n 1, 1) := by decide +kernel
theorem dX8_relight_114 : decode cX8_relight 114 = .ok (.aload_n 0, 1) := by decide +kernel
theorem dX8_relight_115 : decode cX8_relight 115 = .ok (.getfield 88, 3) := by decide +kernel
theorem dX8_relight_118 : decode cX8_relight 118 = .ok (.ior, 1) := by decide +kernel
theorem dX8_relight_119 : decode cX8_relight 119 = .ok (.ireturn, 1) := by decide +kernel
theorem dX8_walkOn_0 : decode cX8_walkOn 0 = .ok (.aload_n 0, 1) := by decide +kernel
theorem dX8_walkOn_1 : decode cX8_walkOn 1 = .ok (.getfield 15, 3) := by decide +kernel
theorem dX8_walkOn_4 : decode cX8_walkOn 4 = .ok (.iconst 0, 1) := by decide +kernel
theorem dX8_walkOn_5 : decode cX8_walkOn 5 = .ok (.iload_n 1, 1) := by decide +kernel
theorem dX8_walkOn_6 : decode cX8_walkOn 6 = .ok (.iastore, 1) := by decide +kernel
theorem dX8_walkOn_7 : decode cX8_walkOn 7 = .ok (.iconst 0, 1) := by decide +kernel
theorem dX8_walkOn_8 : decode cX8_walkOn 8 = .ok (.istore_n 2, 1) := by decide +kernel
theorem dX8_walkOn_9 : decode cX8_walkOn 9 = .ok (.iload_n 2, 1) := by decide +kernel
theorem dX8_walkOn_10 : decode cX8_walkOn 10 = .ok (.aload_n 0, 1) := by decide +kernel
theorem dX8_walkOn_11 : decode cX8_walkOn 11 = .ok (.getfield 60, 3) := by decide +kernel
theorem dX8_walkOn_14 : decode cX8_walkOn 14 = .ok (.if_icmp .ge 33, 3) := by decide +kernel
theorem dX8_walkOn_17 : decode cX8_walkOn 17 = .ok (.aload_n 0, 1) := by decide +kernel
theorem dX8_walkOn_18 : decode cX8_walkOn 18 = .ok (.getfield 15, 3) := by decide +kernel
theorem dX8_walkOn_21 : decode cX8_walkOn 21 = .ok (.iload_n 2, 1) := by decide +kernel
theorem dX8_walkOn_22 : decode cX8_walkOn 22 = .ok (.iconst 1, 1) := by decide +kernel
theorem dX8_walkOn_23 : decode cX8_walkOn 23 = .ok (.iadd, 1) := by decide +kernel
theorem dX8_walkOn_24 : decode cX8_walkOn 24 = .ok (.aload_n 0, 1) := by decide +kernel
theorem dX8_walkOn_25 : decode cX8_walkOn 25 = .ok (.aload_n 0, 1) := by decide +kernel
theorem dX8_walkOn_26 : decode cX8_walkOn 26 = .ok (.getfield 48, 3) := by decide +kernel
theorem dX8_walkOn_29 : decode cX8_walkOn 29 = .ok (.iload_n 2, 1) := by decide +kernel
theorem dX8_walkOn_30 : decode cX8_walkOn 30 = .ok (.iadd, 1) := by decide +kernel
theorem dX8_walkOn_31 : decode cX8_walkOn 31 = .ok (.aload_n 0, 1) := by decide +kernel
theorem dX8_walkOn_32 : decode cX8_walkOn 32 = .ok (.getfield 15, 3) := by decide +kernel
theorem dX8_walkOn_35 : decode cX8_walkOn 35 = .ok (.iload_n 2, 1) := by decide +kernel
theorem dX8_walkOn_36 : decode cX8_walkOn 36 = .ok (.iaload, 1) := by decide +kernel
theorem dX8_walkOn_37 : decode cX8_walkOn 37 = .ok (.invokevirtual 100, 3) := by decide +kernel
theorem dX8_walkOn_40 : decode cX8_walkOn 40 = .ok (.iastore, 1) := by decide +kernel
theorem dX8_walkOn_41 : decode cX8_walkOn 41 = .ok (.iinc 2 1, 3) := by decide +kernel
theorem dX8_walkOn_44 : decode cX8_walkOn 44 = .ok (.goto (-35), 3) := by decide +kernel
theorem dX8_walkOn_47 : decode cX8_walkOn 47 = .ok (.return_, 1) := by decide +kernel
theorem dX8_atDoorFrom_0 : decode cX8_atDoorFrom 0 = .ok (.iload_n 2, 1) := by decide +kernel
theorem dX8_atDoorFrom_1 : decode cX8_atDoorFrom 1 = .ok (.istore_n 3, 1) := by decide +kernel
theorem dX8_atDoorFrom_2 : decode cX8_atDoorFrom 2 = .ok (.iload_n 1, 1) := by decide +kernel
theorem dX8_atDoorFrom_3 : decode cX8_atDoorFrom 3 = .ok (.istore 4, 2) := by decide +kernel
theorem dX8_atDoorFrom_5 : decode cX8_atDoorFrom 5 = .ok (.iload 4, 2) := by decide +kernel
theorem dX8_atDoorFrom_7 : decode cX8_atDoorFrom 7 = .ok (.aload_n 0, 1) := by decide +kernel
theorem dX8_atDoorFrom_8 : decode cX8_atDoorFrom 8 = .ok (.getfield 60, 3) := by decide +kernel
theorem dX8_atDoorFrom_11 : decode cX8_atDoorFrom 11 = .ok (.if_icmp .ge 34, 3) := by decide +kernel
theorem dX8_atDoorFrom_14 : decode cX8_atDoorFrom 14 = .ok (.iload_n 3, 1) := by decide +kernel
theorem dX8_atDoorFrom_15 : decode cX8_atDoorFrom 15 = .ok (.ifCond .eq 30, 3) := by decide +kernel
theorem dX8_atDoorFrom_18 : decode cX8_atDoorFrom 18 = .ok (.aload_n 0, 1) := by decide +kernel
theorem dX8_atDoorFrom_19 : decode cX8_atDoorFrom 19 = .ok (.iload_n 3, 1) := by decide +kernel
theorem dX8_atDoorFrom_20 : decode cX8_atDoorFrom 20 = .ok (.aload_n 0, 1) := by decide +kernel
theorem dX8_atDoorFrom_21 : decode cX8_atDoorFrom 21 = .ok (.getfield 18, 3) := by decide +kernel
theorem dX8_atDoorFrom_24 : decode cX8_atDoorFrom 24 = .ok (.aload_n 0, 1) := by decide +kernel
theorem dX8_atDoorFrom_25 : decode cX8_atDoorFrom 25 = .ok (.getfield 48, 3) := by decide +kernel
theorem dX8_atDoorFrom_28 : decode cX8_atDoorFrom 28 = .ok (.iload 4, 2) := by decide +kernel
theorem dX8_atDoorFrom_30 : decode cX8_atDoorFrom 30 = .ok (.iadd, 1) := by decide +kernel
theorem dX8_atDoorFrom_31 : decode cX8_atDoorFrom 31 = .ok (.iaload, 1) := by decide +kernel
theorem dX8_atDoorFrom_32 : decode cX8_atDoorFrom 32 = .ok (.iconst (-1), 1) := by decide +kernel
theorem dX8_atDoorFrom_33 : decode cX8_atDoorFrom 33 = .ok (.ixor, 1) := by decide +kernel
theorem dX8_atDoorFrom_34 : decode cX8_atDoorFrom 34 = .ok (.iand, 1) := by decide +kernel
theorem dX8_atDoorFrom_35 : decode cX8_atDoorFrom 35 = .ok (.invokevirtual 85, 3) := by decide +kernel
theorem dX8_atDoorFrom_38 : decode cX8_atDoorFrom 38 = .ok (.istore_n 3, 1) := by decide +kernel
theorem dX8_atDoorFrom_39 : decode cX8_atDoorFrom 39 = .ok (.iinc 4 1, 3) := by decide +kernel
theorem dX8_atDoorFrom_42 : decode cX8_atDoorFrom 42 = .ok (.goto (-37), 3) := by decide +kernel
theorem dX8_atDoorFrom_45 : decode cX8_atDoorFrom 45 = .ok (.iload_n 3, 1) := by decide +kernel
theorem dX8_atDoorFrom_46 : decode cX8_atDoorFrom 46 = .ok (.ireturn, 1) := by decide +kernel
theorem dX8_passMinute_0 : decode cX8_passMinute 0 = .ok (.aload_n 0, 1) := by decide +kernel
theorem dX8_passMinute_1 : decode cX8_passMinute 1 = .ok (.aload_n 1, 1) := by decide +kernel
theorem dX8_passMinute_2 : decode cX8_passMinute 2 = .ok (.invokevirtual 103, 3) := by decide +kernel
theorem dX8_passMinute_5 : decode cX8_passMinute 5 = .ok (.aload_n 1, 1) := by decide +kernel
theorem dX8_passMinute_6 : decode cX8_passMinute 6 = .ok (.aload_n 0, 1) := by decide +kernel
theorem dX8_passMinute_7 : decode cX8_passMinute 7 = .ok (.aload_n 1, 1) := by decide +kernel
theorem dX8_passMinute_8 : decode cX8_passMinute 8 = .ok (.getfield 45, 3) := by decide +kernel
theorem dX8_passMinute_11 : decode cX8_passMinute 11 = .ok (.aload_n 1, 1) := by decide +kernel
theorem dX8_passMinute_12 : decode cX8_passMinute 12 = .ok (.getfield 107, 3) := by decide +kernel
theorem dX8_passMinute_15 : decode cX8_passMinute 15 = .ok (.invokevirtual 100, 3) := by decide +kernel
theorem dX8_passMinute_18 : decode cX8_passMinute 18 = .ok (.putfield 107, 3) := by decide +kernel
theorem dX8_passMinute_21 : decode cX8_passMinute 21 = .ok (.aload_n 1, 1) := by decide +kernel
theorem dX8_passMinute_22 : decode cX8_passMinute 22 = .ok (.dup, 1) := by decide +kernel
theorem dX8_passMinute_23 : decode cX8_passMinute 23 = .ok (.getfield 110, 3) := by decide +kernel
theorem dX8_passMinute_26 : decode cX8_passMinute 26 = .ok (.iconst 1, 1) := by decide +kernel
theorem dX8_passMinute_27 : decode cX8_passMinute 27 = .ok (.iadd, 1) := by decide +kernel
theorem dX8_passMinute_28 : decode cX8_passMinute 28 = .ok (.putfield 110, 3) := by decide +kernel
theorem dX8_passMinute_31 : decode cX8_passMinute 31 = .ok (.iload_n 2, 1) := by decide +kernel
theorem dX8_passMinute_32 : decode cX8_passMinute 32 = .ok (.ifCond .ne 13, 3) := by decide +kernel
theorem dX8_passMinute_35 : decode cX8_passMinute 35 = .ok (.aload_n 1, 1) := by decide +kernel
theorem dX8_passMinute_36 : decode cX8_passMinute 36 = .ok (.dup, 1) := by decide +kernel
theorem dX8_passMinute_37 : decode cX8_passMinute 37 = .ok (.getfield 45, 3) := by decide +kernel
theorem dX8_passMinute_40 : decode cX8_passMinute 40 = .ok (.iconst 1, 1) := by decide +kernel
theorem dX8_passMinute_41 : decode cX8_passMinute 41 = .ok (.iadd, 1) := by decide +kernel
theorem dX8_passMinute_42 : decode cX8_passMinute 42 = .ok (.putfield 45, 3) := by decide +kernel
theorem dX8_passMinute_45 : decode cX8_passMinute 45 = .ok (.return_, 1) := by decide +kernel
theorem dX8_unsteadyIn_0 : decode cX8_unsteadyIn 0 = .ok (.iconst 0, 1) := by decide +kernel
theorem dX8_unsteadyIn_1 : decode cX8_unsteadyIn 1 = .ok (.istore_n 3, 1) := by decide +kernel
theorem dX8_unsteadyIn_2 : decode cX8_unsteadyIn 2 = .ok (.iconst 0, 1) := by decide +kernel
theorem dX8_unsteadyIn_3 : decode cX8_unsteadyIn 3 = .ok (.istore 4, 2) := by decide +kernel
theorem dX8_unsteadyIn_5 : decode cX8_unsteadyIn 5 = .ok (.iload 4, 2) := by decide +kernel
theorem dX8_unsteadyIn_7 : decode cX8_unsteadyIn 7 = .ok (.aload_n 0, 1) := by decide +kernel
theorem dX8_unsteadyIn_8 : decode cX8_unsteadyIn 8 = .ok (.getfield 33, 3) := by decide +kernel
theorem dX8_unsteadyIn_11 : decode cX8_unsteadyIn 11 = .ok (.if_icmp .ge 32, 3) := by decide +kernel
theorem dX8_unsteadyIn_14 : decode cX8_unsteadyIn 14 = .ok (.iload_n 1, 1) := by decide +kernel
theorem dX8_unsteadyIn_15 : decode cX8_unsteadyIn 15 = .ok (.aload_n 0, 1) := by decide +kernel
theorem dX8_unsteadyIn_16 : decode cX8_unsteadyIn 16 = .ok (.getfield 24, 3) := by decide +kernel
theorem dX8_unsteadyIn_19 : decode cX8_unsteadyIn 19 = .ok (.bipush 8, 2) := by decide +kernel
theorem dX8_unsteadyIn_21 : decode cX8_unsteadyIn 21 = .ok (.iload_n 2, 1) := by decide +kernel
theorem dX8_unsteadyIn_22 : decode cX8_unsteadyIn 22 = .ok (.imul, 1) := by decide +kernel
theorem dX8_unsteadyIn_23 : decode cX8_unsteadyIn 23 = .ok (.iload 4, 2) := by decide +kernel
theorem dX8_unsteadyIn_25 : decode cX8_unsteadyIn 25 = .ok (.iadd, 1) := by decide +kernel
theorem dX8_unsteadyIn_26 : decode cX8_unsteadyIn 26 = .ok (.iaload, 1) := by decide +kernel
theorem dX8_unsteadyIn_27 : decode cX8_unsteadyIn 27 = .ok (.if_icmp .le 10, 3) := by decide +kernel
theorem dX8_unsteadyIn_30 : decode cX8_unsteadyIn 30 = .ok (.iload_n 3, 1) := by decide +kernel
theorem dX8_unsteadyIn_31 : decode cX8_unsteadyIn 31 = .ok (.iconst 1, 1) := by decide +kernel
theorem dX8_unsteadyIn_32 : decode cX8_unsteadyIn 32 = .ok (.iload 4, 2) := by decide +kernel
theorem dX8_unsteadyIn_34 : decode cX8_unsteadyIn 34 = .ok (.ishl, 1) := by decide +kernel
theorem dX8_unsteadyIn_35 : decode cX8_unsteadyIn 35 = .ok (.ior, 1) := by decide +kernel
theorem dX8_unsteadyIn_36 : decode cX8_unsteadyIn 36 = .ok (.istore_n 3, 1) := by decide +kernel
theorem dX8_unsteadyIn_37 : decode cX8_unsteadyIn 37 = .ok (.iinc 4 1, 3) := by decide +kernel
theorem dX8_unsteadyIn_40 : decode cX8_unsteadyIn 40 = .ok (.goto (-35), 3) := by decide +kernel
theorem dX8_unsteadyIn_43 : decode cX8_unsteadyIn 43 = .ok (.iload_n 3, 1) := by decide +kernel
theorem dX8_unsteadyIn_44 : decode cX8_unsteadyIn 44 = .ok (.ireturn, 1) := by decide +kernel
theorem dX9_init_0 : decode cX9_init 0 = .ok (.aload_n 0, 1) := by decide +kernel
theorem dX9_init_1 : decode cX9_init 1 = .ok (.invokespecial 1, 3) := by decide +kernel
theorem dX9_init_4 : decode cX9_init 4 = .ok (.aload_n 0, 1) := by decide +kernel
theorem dX9_init_5 : decode cX9_init 5 = .ok (.new 7, 3) := by decide +kernel
theorem dX9_init_8 : decode cX9_init 8 = .ok (.dup, 1) := by decide +kernel
theorem dX9_init_9 : decode cX9_init 9 = .ok (.invokespecial 9, 3) := by decide +kernel
theorem dX9_init_12 : decode cX9_init 12 = .ok (.putfield 10, 3) := by decide +kernel
theorem dX9_init_15 : decode cX9_init 15 = .ok (.aload_n 0, 1) := by decide +kernel
theorem dX9_init_16 : decode cX9_init 16 = .ok (.new 7, 3) := by decide +kernel
theorem dX9_init_19 : decode cX9_init 19 = .ok (.dup, 1) := by decide +kernel
theorem dX9_init_20 : decode cX9_init 20 = .ok (.invokespecial 9, 3) := by decide +kernel
theorem dX9_init_23 : decode cX9_init 23 = .ok (.putfield 16, 3) := by decide +kernel
theorem dX9_init_26 : decode cX9_init 26 = .ok (.new 7, 3) := by decide +kernel
theorem dX9_init_29 : decode cX9_init 29 = .ok (.dup, 1) := by decide +kernel
theorem dX9_init_30 : decode cX9_init 30 = .ok (.invokespecial 9, 3) := by decide +kernel
theorem dX9_init_33 : decode cX9_init 33 = .ok (.astore_n 1, 1) := by decide +kernel
theorem dX9_init_34 : decode cX9_init 34 = .ok (.aload_n 0, 1) := by decide +kernel
theorem dX9_init_35 : decode cX9_init 35 = .ok (.new 19, 3) := by decide +kernel
theorem dX9_init_38 : decode cX9_init 38 = .ok (.dup, 1) := by decide +kernel
theorem dX9_init_39 : decode cX9_init 39 = .ok (.invokespecial 21, 3) := by decide +kernel
theorem dX9_init_42 : decode cX9_init 42 = .ok (.putfield 22, 3) := by decide +kernel
theorem dX9_init_45 : decode cX9_init 45 = .ok (.aload_n 0, 1) := by decide +kernel
theorem dX9_init_46 : decode cX9_init 46 = .ok (.new 26, 3) := by decide +kernel
theorem dX9_init_49 : decode cX9_init 49 = .ok (.dup, 1) := by decide +kernel
theorem dX9_init_50 : decode cX9_init 50 = .ok (.invokespecial 28, 3) := by decide +kernel
theorem dX9_init_53 : decode cX9_init 53 = .ok (.putfield 29, 3) := by decide +kernel
theorem dX9_init_56 : decode cX9_init 56 = .ok (.aload_n 0, 1) := by decide +kernel
theorem dX9_init_57 : decode cX9_init 57 = .ok (.new 33, 3) := by decide +kernel
theorem dX9_init_60 : decode cX9_init 60 = .ok (.dup, 1) := by decide +kernel
theorem dX9_init_61 : decode cX9_init 61 = .ok (.aload_n 1, 1) := by decide +kernel
theorem dX9_init_62 : decode cX9_init 62 = .ok (.aload_n 0, 1) := by decide +kernel
theorem dX9_init_63 : decode cX9_init 63 = .ok (.getfield 22, 3) := by decide +kernel
theorem dX9_init_66 : decode cX9_init 66 = .ok (.invokespecial 35, 3) := by decide +kernel
theorem dX9_init_69 : decode cX9_init 69 = .ok (.putfield 38, 3) := by decide +kernel
theorem dX9_init_72 : decode cX9_init 72 = .ok (.aload_n 0, 1) := by decide +kernel
theorem dX9_init_73 : decode cX9_init 73 = .ok (.new 42, 3) := by decide +kernel
theorem dX9_init_76 : decode cX9_init 76 = .ok (.dup, 1) := by decide +kernel
theorem dX9_init_77 : decode cX9_init 77 = .ok (.invokespecial 44, 3) := by decide +kernel
theorem dX9_init_80 : decode cX9_init 80 = .ok (.putfield 45, 3) := by decide +kernel
theorem dX9_init_83 : decode cX9_init 83 = .ok (.aload_n 0, 1) := by decide +kernel
theorem dX9_init_84 : decode cX9_init 84 = .ok (.new 49, 3) := by decide +kernel
theorem dX9_init_87 : decode cX9_init 87 = .ok (.dup, 1) := by decide +kernel
theorem dX9_init_88 : decode cX9_init 88 = .ok (.aload_n 0, 1) := by decide +kernel
theorem dX9_init_89 : decode cX9_init 89 = .ok (.getfield 10, 3) := by decide +kernel
theorem dX9_init_92 : decode cX9_init 92 = .ok (.aload_n 0, 1) := by decide +kernel
theorem dX9_init_93 : decode cX9_init 93 = .ok (.getfield 22, 3) := by decide +kernel
theorem dX9_init_96 : decode cX9_init 96 = .ok (.invokespecial 51, 3) := by decide +kernel
theorem dX9_init_99 : decode cX9_init 99 = .ok (.putfield 52, 3) := by decide +kernel
theorem dX9_init_102 : decode cX9_init 102 = .ok (.aload_n 0, 1) := by decide +kernel
theorem dX9_init_103 : decode cX9_init 103 = .ok (.new 56, 3) := by decide +kernel
theorem dX9_init_106 : decode cX9_init 106 = .ok (.dup, 1) := by decide +kernel
theorem dX9_init_107 : decode cX9_init 107 = .ok (.aload_n 0, 1) := by decide +kernel
theorem dX9_init_108 : decode cX9_init 108 = .ok (.getfield 10, 3) := by decide +kernel
theorem dX9_init_111 : decode cX9_init 111 = .ok (.aload_n 0, 1) := by decide +kernel
theorem dX9_init_112 : decode cX9_init 112 = .ok (.getfield 22, 3) := by decide +kernel
theorem dX9_init_115 : decode cX9_init 115 = .ok (.invokespecial 58, 3) := by decide +kernel
theorem dX9_init_118 : decode cX9_init 118 = .ok (.putfield 59, 3) := by decide +kernel
theorem dX9_init_121 : decode cX9_init 121 = .ok (.aload_n 0, 1) := by decide +kernel
theorem dX9_init_122 : decode cX9_init 122 = .ok (.new 63, 3) := by decide +kernel
theorem dX9_init_125 : decode cX9_init 125 = .ok (.dup, 1) := by decide +kernel
theorem dX9_init_126 : decode cX9_init 126 = .ok (.aload_n 0, 1) := by decide +kernel
theorem dX9_init_127 : decode cX9_init 127 = .ok (.getfield 10, 3) := by decide +kernel
theorem dX9_init_130 : decode cX9_init 130 = .ok (.aload_n 1, 1) := by decide +kernel
theorem dX9_init_131 : decode cX9_init 131 = .ok (.aload_n 0, 1) := by decide +kernel
theorem dX9_init_132 : decode cX9_init 132 = .ok (.getfield 22, 3) := by decide +kernel
theorem dX9_init_135 : decode cX9_init 135 = .ok (.invokespecial 65, 3) := by decide +kernel
theorem dX9_init_138 : decode cX9_init 138 = .ok (.putfield 68, 3) := by decide +kernel
theorem dX9_init_141 : decode cX9_init 141 = .ok (.aload_n 0, 1) := by decide +kernel
theorem dX9_init_142 : decode cX9_init 142 = .ok (.new 72, 3) := by decide +kernel
theorem dX9_init_145 : decode cX9_init 145 = .ok (.dup, 1) := by decide +kernel
theorem dX9_init_146 : decode cX9_init 146 = .ok (.aload_n 0, 1) := by decide +kernel
theorem dX9_init_147 : decode cX9_init 147 = .ok (.getfield 22, 3) := by decide +kernel
theorem dX9_init_150 : decode cX9_init 150 = .ok (.invokespecial 74, 3) := by decide +kernel
theorem dX9_init_153 : decode cX9_init 153 = .ok (.putfield 77, 3) := by decide +kernel
theorem dX9_init_156 : decode cX9_init 156 = .ok (.aload_n 0, 1) := by decide +kernel
theorem dX9_init_157 : decode cX9_init 157 = .ok (.bipush 7, 2) := by decide +kernel
theorem dX9_init_159 : decode cX9_init 159 = .ok (.newarray .int, 2) := by decide +kernel
theorem dX9_init_161 : decode cX9_init 161 = .ok (.putfield 81, 3) := by decide +kernel
theorem dX9_init_164 : decode cX9_init 164 = .ok (.return_, 1) := by decide +kernel
theorem dX9_feed_0 : decode cX9_feed 0 = .ok (.iload_n 1, 1) := by decide +kernel
theorem dX9_feed_1 : decode cX9_feed 1 = .ok (.ifCond .ge 10, 3) := by decide +kernel
theorem dX9_feed_4 : decode cX9_feed 4 = .ok (.aload_n 0, 1) := by decide +kernel
theorem dX9_feed_5 : decode cX9_feed 5 = .ok (.bipush (-4), 2) := by decide +kernel
theorem dX9_feed_7 : decode cX9_feed 7 = .ok (.invokevirtual 85, 3) := by decide +kernel
theorem dX9_feed_10 : decode cX9_feed 10 = .ok (.ireturn, 1) := by decide +kernel
theorem dX9_feed_11 : decode cX9_feed 11 = .ok (.iload_n 1, 1) := by decide +kernel
theorem dX9_feed_12 : decode cX9_feed 12 = .ok (.sipush 255, 3) := by decide +kernel
theorem dX9_feed_15 : decode cX9_feed 15 = .ok (.if_icmp .gt 13, 3) := by decide +kernel
theorem dX9_feed_18 : decode cX9_feed 18 = .ok (.aload_n 0, 1) := by decide +kernel
theorem dX9_feed_19 : decode cX9_feed 19 = .ok (.getfield 38, 3) := by decide +kernel
theorem dX9_feed_22 : decode cX9_feed 22 = .ok (.invokevirtual 89, 3) := by decide +kernel
theorem dX9_feed_25 : decode cX9_feed 25 = .ok (.ifCond .eq 10, 3) := by decide +kernel
theorem dX9_feed_28 : decode cX9_feed 28 = .ok (.aload_n 0, 1) := by decide +kernel
theorem dX9_feed_29 : decode cX9_feed 29 = .ok (.bipush (-6), 2) := by decide +kernel
theorem dX9_feed_31 : decode cX9_feed 31 = .ok (.invokevirtual 85, 3) := by decide +kernel
theorem dX9_feed_34 : decode cX9_feed 34 = .ok (.ireturn, 1) := by decide +kernel
theorem dX9_feed_35 : decode cX9_feed 35 = .ok (.aload_n 0, 1) := by decide +kernel
theorem dX9_feed_36 : decode cX9_feed 36 = .ok (.getfield 38, 3) := by decide +kernel
theorem dX9_feed_39 : decode cX9_feed 39 = .ok (.iload_n 1, 1) := by decide +kernel
theorem dX9_feed_40 : decode cX9_feed 40 = .ok (.invokevirtual 93, 3) := by decide +kernel
theorem dX9_feed_43 : decode cX9_feed 43 = .ok (.ireturn, 1) := by decide +kernel
theorem dX9_road_0 : decode cX9_road 0 = .ok (.aload_n 0, 1) := by decide +kernel
theorem dX9_road_1 : decode cX9_road 1 = .ok (.getfield 38, 3) := by decide +kernel
theorem dX9_road_4 : decode cX9_road 4 = .ok (.invokevirtual 96, 3) := by decide +kernel
theorem dX9_road_7 : decode cX9_road 7 = .ok (.istore_n 1, 1) := by decide +kernel
theorem dX9_road_8 : decode cX9_road 8 = .ok (.iload_n 1, 1) := by decide +kernel
theorem dX9_road_9 : decode cX9_road 9 = .ok (.ifCond .ne 15, 3) := by decide +kernel
theorem dX9_road_12 : decode cX9_road 12 = .ok (.aload_n 0, 1) := by decide +kernel
theorem dX9_road_13 : decode cX9_road 13 = .ok (.getfield 38, 3) := by decide +kernel
theorem dX9_road_16 : decode cX9_road 16 = .ok (.aload_n 0, 1) := by decide +kernel
theorem dX9_road_17 : decode cX9_road 17 = .ok (.getfield 10, 3) := by decide +kernel
theorem dX9_road_20 : decode cX9_road 20 = .ok (.invokevirtual 100, 3) := by decide +kernel
theorem dX9_road_23 : decode cX9_road 23 = .ok (.istore_n 1, 1) := by decide +kernel
theorem dX9_road_24 : decode cX9_road 24 = .ok (.iload_n 1, 1) := by decide +kernel
theorem dX9_road_25 : decode cX9_road 25 = .ok (.ifCond .lt 10, 3) := by decide +kernel
theorem dX9_road_28 : decode cX9_road 28 = .ok (.aload_n 0, 1) := by decide +kernel
theorem dX9_road_29 : decode cX9_road 29 = .ok (.getfield 29, 3) := by decide +kernel
theorem dX9_road_32 : decode cX9_road 32 = .ok (.invokevirtual 104, 3) := by decide +kernel
theorem dX9_road_35 : decode cX9_road 35 = .ok (.aload_n 0, 1) := by decide +kernel
theorem dX9_road_36 : decode cX9_road 36 = .ok (.getfield 38, 3) := by decide +kernel
theorem dX9_road_39 : decode cX9_road 39 = .ok (.iconst 0, 1) := by decide +kernel
theorem dX9_road_40 : decode cX9_road 40 = .ok (.putfield 107, 3) := by decide +kernel
theorem dX9_road_43 : decode cX9_road 43 = .ok (.iload_n 1, 1) := by decide +kernel
theorem dX9_road_44 : decode cX9_road 44 = .ok (.ireturn, 1) := by decide +kernel
theorem dX9_person_0 : decode cX9_person 0 = .ok (.aload_n 0, 1) := by decide +kernel
theorem dX9_person_1 : decode cX9_person 1 = .ok (.getfield 10, 3) := by decide +kernel
theorem dX9_person_4 : decode cX9_person 4 = .ok (.iload_n 1, 1) := by decide +kernel
theorem dX9_person_5 : decode cX9_person 5 = .ok (.invokevirtual 111, 3) := by decide +kernel
theorem dX9_person_8 : decode cX9_person 8 = .ok (.ifCond .ne 9, 3) := by decide +kernel
theorem dX9_person_11 : decode cX9_person 11 = .ok (.aload_n 0, 1) := by decide +kernel
theorem dX9_person_12 : decode cX9_person 12 = .ok (.iconst (-1), 1) := by decide +kernel
theorem dX9_person_13 : decode cX9_person 13 = .ok (.invokevirtual 85, 3) := by decide +kernel
theorem dX9_person_16 : decode cX9_person 16 = .ok (.ireturn, 1) := by decide +kernel
theorem dX9_person_17 : decode cX9_person 17 = .ok (.iload_n 2, 1) := by decide +kernel
theorem dX9_person_18 : decode cX9_person 18 = .ok (.bipush 6, 2) := by decide +kernel
theorem dX9_person_20 : decode cX9_person 20 = .ok (.invokestatic 115, 3) := by decide +kernel
theorem dX9_person_23 : decode cX9_person 23 = .ok (.ifCond .eq 10, 3) := by decide +kernel
theorem dX9_person_26 : decode cX9_person 26 = .ok (.aload_n 0, 1) := by decide +kernel
theorem dX9_person_27 : decode cX9_person 27 = .ok (.bipush (-2), 2) := by decide +kernel
theorem dX9_person_29 : decode cX9_person 29 = .ok (.invokevirtual 85, 3) := by decide +kernel
theorem dX9_person_32 : decode cX9_person 32 = .ok (.ireturn, 1) := by decide +kernel
theorem dX9_person_33 : decode cX9_person 33 = .ok (.aload_n 0, 1) := by decide +kernel
theorem dX9_person_34 : decode cX9_person 34 = .ok (.getfield 10, 3) := by decide +kernel
theorem dX9_person_37 : decode cX9_person 37 = .ok (.iload_n 1, 1) := by decide +kernel
theorem dX9_person_38 : decode cX9_person 38 = .ok (.iload_n 2, 1) := by decide +kernel
theorem dX9_person_39 : decode cX9_person 39 = .ok (.invokevirtual 119, 3) := by decide +kernel
theorem dX9_person_42 : decode cX9_person 42 = .ok (.ireturn, 1) := by decide +kernel
theorem dX9_light_0 : decode cX9_light 0 = .ok (.aload_n 0, 1) := by decide +kernel
theorem dX9_light_1 : decode cX9_light 1 = .ok (.getfield 10, 3) := by decide +kernel
theorem dX9_light_4 : decode cX9_light 4 = .ok (.iload_n 1, 1) := by decide +kernel
theorem dX9_light_5 : decode cX9_light 5 = .ok (.invokevirtual 111, 3) := by decide +kernel
theorem dX9_light_8 : decode cX9_light 8 = .ok (.ifCond .ne 9, 3) := by decide +kernel
theorem dX9_light_11 : decode cX9_light 11 = .ok (.aload_n 0, 1) := by decide +kernel
theorem dX9_light_12 : decode cX9_light 12 = .ok (.iconst (-1), 1) := by decide +kernel
theorem dX9_light_13 : decode cX9_light 13 = .ok (.invokevirtual 85, 3) := by decide +kernel
theorem dX9_light_16 : decode cX9_light 16 = .ok (.ireturn, 1) := by decide +kernel
theorem dX9_light_17 : decode cX9_light 17 = .ok (.iload_n 2, 1) := by decide +kernel
theorem dX9_light_18 : decode cX9_light 18 = .ok (.iconst 1, 1) := by decide +kernel
theorem dX9_light_19 : decode cX9_light 19 = .ok (.invokestatic 115, 3) := by decide +kernel
theorem dX9_light_22 : decode cX9_light 22 = .ok (.ifCond .eq 10, 3) := by decide +kernel
theorem dX9_light_25 : decode cX9_light 25 = .ok (.aload_n 0, 1) := by decide +kernel
theorem dX9_light_26 : decode cX9_light 26 = .ok (.bipush (-2), 2) := by decide +kernel
theorem dX9_light_28 : decode cX9_light 28 = .ok (.invokevirtual 85, 3) := by decide +kernel
theorem dX9_light_31 : decode cX9_light 31 = .ok (.ireturn, 1) := by decide +kernel
theorem dX9_light_32 : decode cX9_light 32 = .ok (.iload_n 2, 1) := by decide +kernel
theorem dX9_light_33 : decode cX9_light 33 = .ok (.iconst 1, 1) := by decide +kernel
theorem dX9_light_34 : decode cX9_light 34 = .ok (.if_icmp .ne 21, 3) := by decide +kernel
theorem dX9_light_37 : decode cX9_light 37 = .ok (.aload_n 0, 1) := by decide +kernel
theorem dX9_light_38 : decode cX9_light 38 = .ok (.getfield 10, 3) := by decide +kernel
theorem dX9_light_41 : decode cX9_light 41 = .ok (.iload_n 1, 1) := by decide +kernel
theorem dX9_light_42 : decode cX9_light 42 = .ok (.invokevirtual 123, 3) := by decide +kernel
theorem dX9_light_45 : decode cX9_light 45 = .ok (.ifCond .eq 10, 3) := by decide +kernel
theorem dX9_light_48 : decode cX9_light 48 = .ok (.aload_n 0, 1) := by decide +kernel
theorem dX9_light_49 : decode cX9_light 49 = .ok (.bipush (-3), 2) := by decide +kernel
theorem dX9_light_51 : decode cX9_light 51 = .ok (.invokevirtual 85, 3) := by decide +kernel
theorem dX9_light_54 : decode cX9_light 54 = .ok (.ireturn, 1) := by decide +kernel
theorem dX9_light_55 : decode cX9_light 55 = .ok (.aload_n 0, 1) := by decide +kernel
theorem dX9_light_56 : decode cX9_light 56 = .ok (.getfield 10, 3) := by decide +kernel
theorem dX9_light_59 : decode cX9_light 59 = .ok (.iload_n 1, 1) := by decide +kernel
theorem dX9_light_60 : decode cX9_light 60 = .ok (.invokevirtual 126, 3) := by decide +kernel
theorem dX9_light_63 : decode cX9_light 63 = .ok (.ifCond .eq 7, 3) := by decide +kernel
theorem dX9_light_66 : decode cX9_light 66 = .ok (.iconst 1, 1) := by decide +kernel
theorem dX9_light_67 : decode cX9_light 67 = .ok (.goto 4, 3) := by decide +kernel
theorem dX9_light_70 : decode cX9_light 70 = .ok (.iconst 0, 1) := by decide +kernel
theorem dX9_light_71 : decode cX9_light 71 = .ok (.istore_n 3, 1) := by decide +kernel
theorem dX9_light_72 : decode cX9_light 72 = .ok (.aload_n 0, 1) := by decide +kernel
theorem dX9_light_73 : decode cX9_light 73 = .ok (.getfield 10, 3) := by decide +kernel
theorem dX9_light_76 : decode cX9_light 76 = .ok (.iload_n 1, 1) := by decide +kernel
theorem dX9_light_77 : decode cX9_light 77 = .ok (.iload_n 2, 1) := by decide +kernel
theorem dX9_light_78 : decode cX9_light 78 = .ok (.iconst 1, 1) := by decide +kernel
theorem dX9_light_79 : decode cX9_light 79 = .ok (.if_icmp .ne 7, 3) := by decide +kernel
theorem dX9_light_82 : decode cX9_light 82 = .ok (.iconst 1, 1) := by decide +kernel
theorem dX9_light_83 : decode cX9_light 83 = .ok (.goto 4, 3) := by decide +kernel
theorem dX9_light_86 : decode cX9_light 86 = .ok (.iconst 0, 1) := by decide +kernel
theorem dX9_light_87 : decode cX9_light 87 = .ok (.invokevirtual 129, 3) := by decide +kernel
theorem dX9_light_90 : decode cX9_light 90 = .ok (.aload_n 0, 1) := by decide +kernel
theorem dX9_light_91 : decode cX9_light 91 = .ok (.getfield 29, 3) := by decide +kernel
theorem dX9_light_94 : decode cX9_light 94 = .ok (.invokevirtual 104, 3) := by decide +kernel
theorem dX9_light_97 : decode cX9_light 97 = .ok (.iload_n 3, 1) := by decide +kernel
theorem dX9_light_98 : decode cX9_light 98 = .ok (.ireturn, 1) := by decide +kernel
theorem dX9_kind_0 : decode cX9_kind 0 = .ok (.aload_n 0, 1) := by decide +kernel
theorem dX9_kind_1 : decode cX9_kind 1 = .ok (.getfield 10, 3) := by decide +kernel
theorem dX9_kind_4 : decode cX9_kind 4 = .ok (.iload_n 1, 1) := by decide +kernel
theorem dX9_kind_5 : decode cX9_kind 5 = .ok (.invokevirtual 111, 3) := by decide +kernel
theorem dX9_kind_8 : decode cX9_kind 8 = .ok (.ifCond .ne 9, 3) := by decide +kernel
theorem dX9_kind_11 : decode cX9_kind 11 = .ok (.aload_n 0, 1) := by decide +kernel
theorem dX9_kind_12 : decode cX9_kind 12 = .ok (.iconst (-1), 1) := by decide +kernel
theorem dX9_kind_13 : decode cX9_kind 13 = .ok (.invokevirtual 85, 3) := by decide +kernel
theorem dX9_kind_16 : decode cX9_kind 16 = .ok (.ireturn, 1) := by decide +kernel
theorem dX9_kind_17 : decode cX9_kind 17 = .ok (.iload_n 2, 1) := by decide +kernel
theorem dX9_kind_18 : decode cX9_kind 18 = .ok (.bipush 6, 2) := by decide +kernel
theorem dX9_kind_20 : decode cX9_kind 20 = .ok (.invokestatic 115, 3) := by decide +kernel
theorem dX9_kind_23 : decode cX9_kind 23 = .ok (.ifCond .eq 10, 3) := by decide +kernel
theorem dX9_kind_26 : decode cX9_kind 26 = .ok (.aload_n 0, 1) := by decide +kernel
theorem dX9_kind_27 : decode cX9_kind 27 = .ok (.bipush (-2), 2) := by decide +kernel
theorem dX9_kind_29 : decode cX9_kind 29 = .ok (.invokevirtual 85, 3) := by decide +kernel
theorem dX9_kind_32 : decode cX9_kind 32 = .ok (.ireturn, 1) := by decide +kernel
theorem dX9_kind_33 : decode cX9_kind 33 = .ok (.iload_n 3, 1) := by decide +kernel
theorem dX9_kind_34 : decode cX9_kind 34 = .ok (.ifCond .ge 10, 3) := by decide +kernel
theorem dX9_kind_37 : decode cX9_kind 37 = .ok (.aload_n 0, 1) := by decide +kernel
theorem dX9_kind_38 : decode cX9_kind 38 = .ok (.bipush (-4), 2) := by decide +kernel
theorem dX9_kind_40 : decode cX9_kind 40 = .ok (.invokevirtual 85, 3) := by decide +kernel
theorem dX9_kind_43 : decode cX9_kind 43 = .ok (.ireturn, 1) := by decide +kernel
theorem dX9_kind_44 : decode cX9_kind 44 = .ok (.iload_n 3, 1) := by decide +kernel
theorem dX9_kind_45 : decode cX9_kind 45 = .ok (.bipush 9, 2) := by decide +kernel
theorem dX9_kind_47 : decode cX9_kind 47 = .ok (.if_icmp .le 10, 3) := by decide +kernel
theorem dX9_kind_50 : decode cX9_kind 50 = .ok (.aload_n 0, 1) := by decide +kernel
theorem dX9_kind_51 : decode cX9_kind 51 = .ok (.bipush (-6), 2) := by decide +kernel
theorem dX9_kind_53 : decode cX9_kind 53 = .ok (.invokevirtual 85, 3) := by decide +kernel
theorem dX9_kind_56 : decode cX9_kind 56 = .ok (.ireturn, 1) := by decide +kernel
theorem dX9_kind_57 : decode cX9_kind 57 = .ok (.bipush 10, 2) := by decide +kernel
theorem dX9_kind_59 : decode cX9_kind 59 = .ok (.aload_n 0, 1) := by decide +kernel
theorem dX9_kind_60 : decode cX9_kind 60 = .ok (.getfield 10, 3) := by decide +kernel
theorem dX9_kind_63 : decode cX9_kind 63 = .ok (.getfield 133, 3) := by decide +kernel
theorem dX9_kind_66 : decode cX9_kind 66 = .ok (.iload_n 1, 1) := by decide +kernel
theorem dX9_kind_67 : decode cX9_kind 67 = .ok (.iaload, 1) := by decide +kernel
theorem dX9_kind_68 : decode cX9_kind 68 = .ok (.imul, 1) := by decide +kernel
theorem dX9_kind_69 : decode cX9_kind 69 = .ok (.aload_n 0, 1) := by decide +kernel
theorem dX9_kind_70 : decode cX9_kind 70 = .ok (.getfield 10, 3) := by decide +kernel
theorem dX9_kind_73 : decode cX9_kind 73 = .ok (.getfield 136, 3) := by decide +kernel
theorem dX9_kind_76 : decode cX9_kind 76 = .ok (.iload_n 1, 1) := by decide +kernel
theorem dX9_kind_77 : decode cX9_kind 77 = .ok (.iaload, 1) := by decide +kernel
theorem dX9_kind_78 : decode cX9_kind 78 = .ok (.iadd, 1) := by decide +kernel
theorem dX9_kind_79 : decode cX9_kind 79 = .ok (.istore 4, 2) := by decide +kernel
theorem dX9_kind_81 : decode cX9_kind 81 = .ok (.aload_n 0, 1) := by decide +kernel
theorem dX9_kind_82 : decode cX9_kind 82 = .ok (.getfield 10, 3) := by decide +kernel
theorem dX9_kind_85 : decode cX9_kind 85 = .ok (.getfield 136, 3) := by decide +kernel
theorem dX9_kind_88 : decode cX9_kind 88 = .ok (.iload_n 1, 1) := by decide +kernel
theorem dX9_kind_89 : decode cX9_kind 89 = .ok (.iload_n 3, 1) := by decide +kernel
theorem dX9_kind_90 : decode cX9_kind 90 = .ok (.iastore, 1) := by decide +kernel
theorem dX9_kind_91 : decode cX9_kind 91 = .ok (.aload_n 0, 1) := by decide +kernel
theorem dX9_kind_92 : decode cX9_kind 92 = .ok (.getfield 10, 3) := by decide +kernel
theorem dX9_kind_95 : decode cX9_kind 95 = .ok (.iload_n 1, 1) := by decide +kernel
theorem dX9_kind_96 : decode cX9_kind 96 = .ok (.iload_n 2, 1) := by decide +kernel
theorem dX9_kind_97 : decode cX9_kind 97 = .ok (.invokevirtual 139, 3) := by decide +kernel
theorem dX9_kind_100 : decode cX9_kind 100 = .ok (.aload_n 0, 1) := by decide +kernel
theorem dX9_kind_101 : decode cX9_kind 101 = .ok (.getfield 29, 3) := by decide +kernel
theorem dX9_kind_104 : decode cX9_kind 104 = .ok (.invokevirtual 104, 3) := by decide +kernel
theorem dX9_kind_107 : decode cX9_kind 107 = .ok (.iload 4, 2) := by decide +kernel
theorem dX9_kind_109 : decode cX9_kind 109 = .ok (.ireturn, 1) := by decide +kernel
theorem dX9_wind_0 : decode cX9_wind 0 = .ok (.iload_n 1, 1) := by decide +kernel
theorem dX9_wind_1 : decode cX9_wind 1 = .ok (.bipush 24, 2) := by decide +kernel
theorem dX9_wind_3 : decode cX9_wind 3 = .ok (.invokestatic 115, 3) := by decide +kernel
theorem dX9_wind_6 : decode cX9_wind 6 = .ok (.ifCond .eq 9, 3) := by decide +kernel
theorem dX9_wind_9 : decode cX9_wind 9 = .ok (.aload_n 0, 1) := by decide +kernel
theorem dX9_wind_10 : decode cX9_wind 10 = .ok (.iconst (-1), 1) := by decide +kernel
theorem dX9_wind_11 : decode cX9_wind 11 = .ok (.invokevirtual 85, 3) := by decide +kernel
theorem dX9_wind_14 : decode cX9_wind 14 = .ok (.ireturn, 1) := by decide +kernel
theorem dX9_wind_15 : decode cX9_wind 15 = .ok (.iload_n 2, 1) := by decide +kernel
theorem dX9_wind_16 : decode cX9_wind 16 = .ok (.iconst 1, 1) := by decide +kernel
theorem dX9_wind_17 : decode cX9_wind 17 = .ok (.invokestatic 115, 3) := by decide +kernel
theorem dX9_wind_20 : decode cX9_wind 20 = .ok (.ifCond .eq 10, 3) := by decide +kernel
theorem dX9_wind_23 : decode cX9_wind 23 = .ok (.aload_n 0, 1) := by decide +kernel
theorem dX9_wind_24 : decode cX9_wind 24 = .ok (.bipush (-2), 2) := by decide +kernel
theorem dX9_wind_26 : decode cX9_wind 26 = .ok (.invokevirtual 85, 3) := by decide +kernel
theorem dX9_wind_29 : decode cX9_wind 29 = .ok (.ireturn, 1) := by decide +kernel
theorem dX9_wind_30 : decode cX9_wind 30 = .ok (.iload_n 2, 1) := by decide +kernel
theorem dX9_wind_31 : decode cX9_wind 31 = .ok (.ifCond .ne 15, 3) := by decide +kernel
theorem dX9_wind_34 : decode cX9_wind 34 = .ok (.aload_n 0, 1) := by decide +kernel
theorem dX9_wind_35 : decode cX9_wind 35 = .ok (.getfield 10, 3) := by decide +kernel
theorem dX9_wind_38 : decode cX9_wind 38 = .ok (.getfield 143, 3) := by decide +kernel
theorem dX9_wind_41 : decode cX9_wind 41 = .ok (.iload_n 1, 1) := by decide +kernel
theorem dX9_wind_42 : decode cX9_wind 42 = .ok (.iaload, 1) := by decide +kernel
theorem dX9_wind_43 : decode cX9_wind 43 = .ok (.goto 12, 3) := by decide +kernel
theorem dX9_wind_46 : decode cX9_wind 46 = .ok (.aload_n 0, 1) := by decide +kernel
theorem dX9_wind_47 : decode cX9_wind 47 = .ok (.getfield 10, 3) := by decide +kernel
theorem dX9_wind_50 : decode cX9_wind 50 = .ok (.getfield 146, 3) := by decide +kernel
theorem dX9_wind_53 : decode cX9_wind 53 = .ok (.iload_n 1, 1) := by decide +kernel
theorem dX9_wind_54 : decode cX9_wind 54 = .ok (.iaload, 1) := by decide +kernel
theorem dX9_wind_55 : decode cX9_wind 55 = .ok (.ireturn, 1) := by decide +kernel
theorem dX9_blows_0 : decode cX9_blows 0 = .ok (.iload_n 1, 1) := by decide +kernel
theorem dX9_blows_1 : decode cX9_blows 1 = .ok (.bipush 24, 2) := by decide +kernel
theorem dX9_blows_3 : decode cX9_blows 3 = .ok (.invokestatic 115, 3) := by decide +kernel
theorem dX9_blows_6 : decode cX9_blows 6 = .ok (.ifCond .eq 9, 3) := by decide +kernel
theorem dX9_blows_9 : decode cX9_blows 9 = .ok (.aload_n 0, 1) := by decide +kernel
theorem dX9_blows_10 : decode cX9_blows 10 = .ok (.iconst (-1), 1) := by decide +kernel
theorem dX9_blows_11 : decode cX9_blows 11 = .ok (.invokevirtual 85, 3) := by decide +kernel
theorem dX9_blows_14 : decode cX9_blows 14 = .ok (.ireturn, 1) := by decide +kernel
theorem dX9_blows_15 : decode cX9_blows 15 = .ok (.iload_n 2, 1) := by decide +kernel
theorem dX9_blows_16 : decode cX9_blows 16 = .ok (.ifCond .lt 7, 3) := by decide +kernel
theorem dX9_blows_19 : decode cX9_blows 19 = .ok (.iload_n 3, 1) := by decide +kernel
theorem dX9_blows_20 : decode cX9_blows 20 = .ok (.ifCond .ge 10, 3) := by decide +kernel
theorem dX9_blows_23 : decode cX9_blows 23 = .ok (.aload_n 0, 1) := by decide +kernel
theorem dX9_blows_24 : decode cX9_blows 24 = .ok (.bipush (-4), 2) := by decide +kernel
theorem dX9_blows_26 : decode cX9_blows 26 = .ok (.invokevirtual 85, 3) := by decide +kernel
theorem dX9_blows_29 : decode cX9_blows 29 = .ok (.ireturn, 1) := by decide +kernel
theorem dX9_blows_30 : decode cX9_blows 30 = .ok (.iload_n 2, 1) := by decide +kernel
theorem dX9_blows_31 : decode cX9_blows 31 = .ok (.bipush 9, 2) := by decide +kernel
theorem dX9_blows_33 : decode cX9_blows 33 = .ok (.if_icmp .gt 8, 3) := by decide +kernel
theorem dX9_blows_36 : decode cX9_blows 36 = .ok (.iload_n 3, 1) := by decide +kernel
theorem dX9_blows_37 : decode cX9_blows 37 = .ok (.iconst 2, 1) := by decide +kernel
theorem dX9_blows_38 : decode cX9_blows 38 = .ok (.if_icmp .le 10, 3) := by decide +kernel
theorem dX9_blows_41 : decode cX9_blows 41 = .ok (.aload_n 0, 1) := by decide +kernel
theorem dX9_blows_42 : decode cX9_blows 42 = .ok (.bipush (-6), 2) := by decide +kernel
theorem dX9_blows_44 : decode cX9_blows 44 = .ok (.invokevirtual 85, 3) := by decide +kernel
theorem dX9_blows_47 : decode cX9_blows 47 = .ok (.ireturn, 1) := by decide +kernel
theorem dX9_blows_48 : decode cX9_blows 48 = .ok (.bipush 10, 2) := by decide +kernel
theorem dX9_blows_50 : decode cX9_blows 50 = .ok (.aload_n 0, 1) := by decide +kernel
theorem dX9_blows_51 : decode cX9_blows 51 = .ok (.getfield 10, 3) := by decide +kernel
theorem dX9_blows_54 : decode cX9_blows 54 = .ok (.getfield 143, 3) := by decide +kernel
theorem dX9_blows_57 : decode cX9_blows 57 = .ok (.iload_n 1, 1) := by decide +kernel
theorem dX9_blows_58 : decode cX9_blows 58 = .ok (.iaload, 1) := by decide +kernel
theorem dX9_blows_59 : decode cX9_blows 59 = .ok (.imul, 1) := by decide +kernel
theorem dX9_blows_60 : decode cX9_blows 60 = .ok (.aload_n 0, 1) := by decide +kernel
theorem dX9_blows_61 : decode cX9_blows 61 = .ok (.getfield 10, 3) := by decide +kernel
theorem dX9_blows_64 : decode cX9_blows 64 = .ok (.getfield 146, 3) := by decide +kernel
theorem dX9_blows_67 : decode cX9_blows 67 = .ok (.iload_n 1, 1) := by decide +kernel
theorem dX9_blows_68 : decode cX9_blows 68 = .ok (.iaload, 1) := by decide +kernel
theorem dX9_blows_69 : decode cX9_blows 69 = .ok (.iadd, 1) := by decide +kernel
theorem dX9_blows_70 : decode cX9_blows 70 = .ok (.istore 4, 2) := by decide +kernel
theorem dX9_blows_72 : decode cX9_blows 72 = .ok (.aload_n 0, 1) := by decide +kernel
theorem dX9_blows_73 : decode cX9_blows 73 = .ok (.getfield 10, 3) := by decide +kernel
theorem dX9_blows_76 : decode cX9_blows 76 = .ok (.getfield 143, 3) := by decide +kernel
theorem dX9_blows_79 : decode cX9_blows 79 = .ok (.iload_n 1, 1) := by decide +kernel
theorem dX9_blows_80 : decode cX9_blows 80 = .ok (.iload_n 2, 1) := by decide +kernel
theorem dX9_blows_81 : decode cX9_blows 81 = .ok (.iastore, 1) := by decide +kernel
theorem dX9_blows_82 : decode cX9_blows 82 = .ok (.aload_n 0, 1) := by decide +kernel
theorem dX9_blows_83 : decode cX9_blows 83 = .ok (.getfield 10, 3) := by decide +kernel
theorem dX9_blows_86 : decode cX9_blows 86 = .ok (.getfield 146, 3) := by decide +kernel
theorem dX9_blows_89 : decode cX9_blows 89 = .ok (.iload_n 1, 1) := by decide +kernel
theorem dX9_blows_90 : decode cX9_blows 90 = .ok (.iload_n 3, 1) := by decide +kernel
theorem dX9_blows_91 : decode cX9_blows 91 = .ok (.iastore, 1) := by decide +kernel
theorem dX9_blows_92 : decode cX9_blows 92 = .ok (.aload_n 0, 1) := by decide +kernel
theorem dX9_blows_93 : decode cX9_blows 93 = .ok (.getfield 29, 3) := by decide +kernel
theorem dX9_blows_96 : decode cX9_blows 96 = .ok (.invokevirtual 104, 3) := by decide +kernel
theorem dX9_blows_99 : decode cX9_blows 99 = .ok (.iload 4, 2) := by decide +kernel
theorem dX9_blows_101 : decode cX9_blows 101 = .ok (.ireturn, 1) := by decide +kernel
theorem dX9_set_0 : decode cX9_set 0 = .ok (.iload_n 1, 1) := by decide +kernel
theorem dX9_set_1 : decode cX9_set 1 = .ok (.iconst 2, 1) := by decide +kernel
theorem dX9_set_2 : decode cX9_set 2 = .ok (.invokestatic 115, 3) := by decide +kernel
theorem dX9_set_5 : decode cX9_set 5 = .ok (.ifCond .eq 10, 3) := by decide +kernel
theorem dX9_set_8 : decode cX9_set 8 = .ok (.aload_n 0, 1) := by decide +kernel
theorem dX9_set_9 : decode cX9_set 9 = .ok (.bipush (-2), 2) := by decide +kernel
theorem dX9_set_11 : decode cX9_set 11 = .ok (.invokevirtual 85, 3) := by decide +kernel
theorem dX9_set_14 : decode cX9_set 14 = .ok (.ireturn, 1) := by decide +kernel
theorem dX9_set_15 : decode cX9_set 15 = .ok (.iload_n 2, 1) := by decide +kernel
theorem dX9_set_16 : decode cX9_set 16 = .ok (.iload_n 1, 1) := by decide +kernel
theorem dX9_set_17 : decode cX9_set 17 = .ok (.invokestatic 149, 3) := by decide +kernel
theorem dX9_set_20 : decode cX9_set 20 = .ok (.if_icmp .ge 10, 3) := by decide +kernel
theorem dX9_set_23 : decode cX9_set 23 = .ok (.aload_n 0, 1) := by decide +kernel
theorem dX9_set_24 : decode cX9_set 24 = .ok (.bipush (-4), 2) := by decide +kernel
theorem dX9_set_26 : decode cX9_set 26 = .ok (.invokevirtual 85, 3) := by decide +kernel
theorem dX9_set_29 : decode cX9_set 29 = .ok (.ireturn, 1) := by decide +kernel
theorem dX9_set_30 : decode cX9_set 30 = .ok (.iload_n 2, 1) := by decide +kernel
theorem dX9_set_31 : decode cX9_set 31 = .ok (.iload_n 1, 1) := by decide +kernel
theorem dX9_set_32 : decode cX9_set 32 = .ok (.invokestatic 152, 3) := by decide +kernel
theorem dX9_set_35 : decode cX9_set 35 = .ok (.if_icmp .le 10, 3) := by decide +kernel
theorem dX9_set_38 : decode cX9_set 38 = .ok (.aload_n 0, 1) := by decide +kernel
theorem dX9_set_39 : decode cX9_set 39 = .ok (.bipush (-6), 2) := by decide +kernel
theorem dX9_set_41 : decode cX9_set 41 = .ok (.invokevirtual 85, 3) := by decide +kernel
theorem dX9_set_44 : decode cX9_set 44 = .ok (.ireturn, 1) := by decide +kernel
theorem dX9_set_45 : decode cX9_set 45 = .ok (.iload_n 1, 1) := by decide +kernel
theorem dX9_set_46 : decode cX9_set 46 = .ok (.iconst 2, 1) := by decide +kernel
theorem dX9_set_47 : decode cX9_set 47 = .ok (.if_icmp .ne 21, 3) := by decide +kernel
theorem dX9_set_50 : decode cX9_set 50 = .ok (.iload_n 2, 1) := by decide +kernel
theorem dX9_set_51 : decode cX9_set 51 = .ok (.aload_n 0, 1) := by decide +kernel
theorem dX9_set_52 : decode cX9_set 52 = .ok (.getfield 10, 3) := by decide +kernel
theorem dX9_set_55 : decode cX9_set 55 = .ok (.getfield 155, 3) := by decide +kernel
theorem dX9_set_58 : decode cX9_set 58 = .ok (.if_icmp .ge 10, 3) := by decide +kernel
theorem dX9_set_61 : decode cX9_set 61 = .ok (.aload_n 0, 1) := by decide +kernel
theorem dX9_set_62 : decode cX9_set 62 = .ok (.bipush (-3), 2) := by decide +kernel
theorem dX9_set_64 : decode cX9_set 64 = .ok (.invokevirtual 85, 3) := by decide +kernel
theorem dX9_set_67 : decode cX9_set 67 = .ok (.ireturn, 1) := by decide +kernel
theorem dX9_set_68 : decode cX9_set 68 = .ok (.aload_n 0, 1) := by decide +kernel
theorem dX9_set_69 : decode cX9_set 69 = .ok (.getfield 29, 3) := by decide +kernel
theorem dX9_set_72 : decode cX9_set 72 = .ok (.invokevirtual 104, 3) := by decide +kernel
theorem dX9_set_75 : decode cX9_set 75 = .ok (.aload_n 0, 1) := by decide +kernel
theorem dX9_set_76 : decode cX9_set 76 = .ok (.iload_n 1, 1) := by decide +kernel
theorem dX9_set_77 : decode cX9_set 77 = .ok (.iload_n 2, 1) := by decide +kernel
theorem dX9_set_78 : decode cX9_set 78 = .ok (.invokevirtual 158, 3) := by decide +kernel
theorem dX9_set_81 : decode cX9_set 81 = .ok (.ireturn, 1) := by decide +kernel
theorem dX9_beside_0 : decode cX9_beside 0 = .ok (.aload_n 0, 1) := by decide +kernel
theorem dX9_beside_1 : decode cX9_beside 1 = .ok (.getfield 10, 3) := by decide +kernel
theorem dX9_beside_4 : decode cX9_beside 4 = .ok (.iload_n 1, 1) := by decide +kernel
theorem dX9_beside_5 : decode cX9_beside 5 = .ok (.invokevirtual 111, 3) := by decide +kernel
theorem dX9_beside_8 : decode cX9_beside 8 = .ok (.ifCond .eq 14, 3) := by decide +kernel
theorem dX9_beside_11 : decode cX9_beside 11 = .ok (.aload_n 0, 1) := by decide +kernel
theorem dX9_beside_12 : decode cX9_beside 12 = .ok (.getfield 10, 3) := by decide +kernel
theorem dX9_beside_15 : decode cX9_beside 15 = .ok (.iload_n 1, 1) := by decide +kernel
theorem dX9_beside_16 : decode cX9_beside 16 = .ok (.invokevirtual 161, 3) := by decide +kernel
theorem dX9_beside_19 : decode cX9_beside 19 = .ok (.goto 8, 3) := by decide +kernel
theorem dX9_beside_22 : decode cX9_beside 22 = .ok (.aload_n 0, 1) := by decide +kernel
theorem dX9_beside_23 : decode cX9_beside 23 = .ok (.iconst (-1), 1) := by decide +kernel
theorem dX9_beside_24 : decode cX9_beside 24 = .ok (.invokevirtual 85, 3) := by decide +kernel
theorem dX9_beside_27 : decode cX9_beside 27 = .ok (.ireturn, 1) := by decide +kernel
theorem dX9_covers_0 : decode cX9_covers 0 = .ok (.aload_n 0, 1) := by decide +kernel
theorem dX9_covers_1 : decode cX9_covers 1 = .ok (.getfield 10, 3) := by decide +kernel
theorem dX9_covers_4 : decode cX9_covers 4 = .ok (.iload_n 1, 1) := by decide +kernel
theorem dX9_covers_5 : decode cX9_covers 5 = .ok (.invokevirtual 111, 3) := by decide +kernel
theorem dX9_covers_8 : decode cX9_covers 8 = .ok (.ifCond .eq 12, 3) := by decide +kernel
theorem dX9_covers_11 : decode cX9_covers 11 = .ok (.iload_n 2, 1) := by decide +kernel
theorem dX9_covers_12 : decode cX9_covers 12 = .ok (.bipush 24, 2) := by decide +kernel
theorem dX9_covers_14 : decode cX9_covers 14 = .ok (.invokestatic 115, 3) := by decide +kernel
theorem dX9_covers_17 : decode cX9_covers 17 = .ok (.ifCond .eq 9, 3) := by decide +kernel
theorem dX9_covers_20 : decode cX9_covers 20 = .ok (.aload_n 0, 1) := by decide +kernel
theorem dX9_covers_21 : decode cX9_covers 21 = .ok (.iconst (-1), 1) := by decide +kernel
theorem dX9_covers_22 : decode cX9_covers 22 = .ok (.invokevirtual 85, 3) := by decide +kernel
theorem dX9_covers_25 : decode cX9_covers 25 = .ok (.ireturn, 1) := by decide +kernel
theorem dX9_covers_26 : decode cX9_covers 26 = .ok (.aload_n 0, 1) := by decide +kernel
theorem dX9_covers_27 : decode cX9_covers 27 = .ok (.getfield 10, 3) := by decide +kernel
theorem dX9_covers_30 : decode cX9_covers 30 = .ok (.iload_n 1, 1) := by decide +kernel
theorem dX9_covers_31 : decode cX9_covers 31 = .ok (.aload_n 0, 1) := by decide +kernel
theorem dX9_covers_32 : decode cX9_covers 32 = .ok (.getfield 10, 3) := by decide +kernel
theorem dX9_covers_35 : decode cX9_covers 35 = .ok (.getfield 146, 3) := by decide +kernel
theorem dX9_covers_38 : decode cX9_covers 38 = .ok (.iload_n 2, 1) := by decide +kernel
theorem dX9_covers_39 : decode cX9_covers 39 = .ok (.iaload, 1) := by decide +kernel
theorem dX9_covers_40 : decode cX9_covers 40 = .ok (.invokevirtual 164, 3) := by decide +kernel
theorem dX9_covers_43 : decode cX9_covers 43 = .ok (.ireturn, 1) := by decide +kernel
theorem dX9_go_0 : decode cX9_go 0 = .ok (.iload_n 1, 1) := by decide +kernel
theorem dX9_go_1 : decode cX9_go 1 = .ok (.iconst 1, 1) := by decide +kernel
theorem dX9_go_2 : decode cX9_go 2 = .ok (.invokestatic 115, 3) := by decide +kernel
theorem dX9_go_5 : decode cX9_go 5 = .ok (.ifCond .eq 10, 3) := by decide +kernel
theorem dX9_go_8 : decode cX9_go 8 = .ok (.aload_n 0, 1) := by decide +kernel
theorem dX9_go_9 : decode cX9_go 9 = .ok (.bipush (-2), 2) := by decide +kernel
theorem dX9_go_11 : decode cX9_go 11 = .ok (.invokevirtual 85, 3) := by decide +kernel
theorem dX9_go_14 : decode cX9_go 14 = .ok (.ireturn, 1) := by decide +kernel
theorem dX9_go_15 : decode cX9_go 15 = .ok (.aload_n 0, 1) := by decide +kernel
theorem dX9_go_16 : decode cX9_go 16 = .ok (.getfield 10, 3) := by decide +kernel
theorem dX9_go_19 : decode cX9_go 19 = .ok (.invokevirtual 167, 3) := by decide +kernel
theorem dX9_go_22 : decode cX9_go 22 = .ok (.ifCond .eq 10, 3) := by decide +kernel
theorem dX9_go_25 : decode cX9_go 25 = .ok (.aload_n 0, 1) := by decide +kernel
theorem dX9_go_26 : decode cX9_go 26 = .ok (.bipush (-3), 2) := by decide +kernel
theorem dX9_go_28 : decode cX9_go 28 = .ok (.invokevirtual 85, 3) := by decide +kernel
theorem dX9_go_31 : decode cX9_go 31 = .ok (.ireturn, 1) := by decide +kernel
theorem dX9_go_32 : decode cX9_go 32 = .ok (.aload_n 0, 1) := by decide +kernel
theorem dX9_go_33 : decode cX9_go 33 = .ok (.getfield 10, 3) := by decide +kernel
theorem dX9_go_36 : decode cX9_go 36 = .ok (.getfield 170, 3) := by decide +kernel
theorem dX9_go_39 : decode cX9_go 39 = .ok (.sipush 999, 3) := by decide +kernel
theorem dX9_go_42 : decode cX9_go 42 = .ok (.if_icmp .lt 10, 3) := by decide +kernel
theorem dX9_go_45 : decode cX9_go 45 = .ok (.aload_n 0, 1) := by decide +kernel
theorem dX9_go_46 : decode cX9_go 46 = .ok (.bipush (-6), 2) := by decide +kernel
theorem dX9_go_48 : decode cX9_go 48 = .ok (.invokevirtual 85, 3) := by decide +kernel
theorem dX9_go_51 : decode cX9_go 51 = .ok (.ireturn, 1) := by decide +kernel
theorem dX9_go_52 : decode cX9_go 52 = .ok (.aload_n 0, 1) := by decide +kernel
theorem dX9_go_53 : decode cX9_go 53 = .ok (.getfield 29, 3) := by decide +kernel
theorem dX9_go_56 : decode cX9_go 56 = .ok (.aload_n 0, 1) := by decide +kernel
theorem dX9_go_57 : decode cX9_go 57 = .ok (.getfield 10, 3) := by decide +kernel
theorem dX9_go_60 : decode cX9_go 60 = .ok (.invokevirtual 173, 3) := by decide +kernel
theorem dX9_go_63 : decode cX9_go 63 = .ok (.aload_n 0, 1) := by decide +kernel
theorem dX9_go_64 : decode cX9_go 64 = .ok (.getfield 22, 3) := by decide +kernel
theorem dX9_go_67 : decode cX9_go 67 = .ok (.aload_n 0, 1) := by decide +kernel
theorem dX9_go_68 : decode cX9_go 68 = .ok (.getfield 10, 3) := by decide +kernel
theorem dX9_go_71 : decode cX9_go 71 = .ok (.iload_n 1, 1) := by decide +kernel
theorem dX9_go_72 : decode cX9_go 72 = .ok (.iconst 1, 1) := by decide +kernel
theorem dX9_go_73 : decode cX9_go 73 = .ok (.if_icmp .ne 7, 3) := by decide +kernel
theorem dX9_go_76 : decode cX9_go 76 = .ok (.iconst 1, 1) := by decide +kernel
theorem dX9_go_77 : decode cX9_go 77 = .ok (.goto 4, 3) := by decide +kernel
theorem dX9_go_80 : decode cX9_go 80 = .ok (.iconst 0, 1) := by decide +kernel
theorem dX9_go_81 : decode cX9_go 81 = .ok (.invokevirtual 177, 3) := by decide +kernel
theorem dX9_go_84 : decode cX9_go 84 = .ok (.aload_n 0, 1) := by decide +kernel
theorem dX9_go_85 : decode cX9_go 85 = .ok (.getfield 10, 3) := by decide +kernel
theorem dX9_go_88 : decode cX9_go 88 = .ok (.getfield 181, 3) := by decide +kernel
theorem dX9_go_91 : decode cX9_go 91 = .ok (.invokestatic 184, 3) := by decide +kernel
theorem dX9_go_94 : decode cX9_go 94 = .ok (.ireturn, 1) := by decide +kernel
theorem dX9_lit_0 : decode cX9_lit 0 = .ok (.aload_n 0, 1) := by decide +kernel
theorem dX9_lit_1 : decode cX9_lit 1 = .ok (.getfield 10, 3) := by decide +kernel
theorem dX9_lit_4 : decode cX9_lit 4 = .ok (.getfield 181, 3) := by decide +kernel
theorem dX9_lit_7 : decode cX9_lit 7 = .ok (.ireturn, 1) := by decide +kernel
theorem dX9_then_0 : decode cX9_then 0 = .ok (.iload_n 1, 1) := by decide +kernel
theorem dX9_then_1 : decode cX9_then 1 = .ok (.ifCond .ge 10, 3) := by decide +kernel
theorem dX9_then_4 : decode cX9_then 4 = .ok (.aload_n 0, 1) := by decide +kernel
theorem dX9_then_5 : decode cX9_then 5 = .ok (.bipush (-4), 2) := by decide +kernel
theorem dX9_then_7 : decode cX9_then 7 = .ok (.invokevirtual 85, 3) := by decide +kernel
theorem dX9_then_10 : decode cX9_then 10 = .ok (.ireturn, 1) := by decide +kernel
theorem dX9_then_11 : decode cX9_then 11 = .ok (.iload_n 1, 1) := by decide +kernel
theorem dX9_then_12 : decode cX9_then 12 = .ok (.bipush 24, 2) := by decide +kernel
theorem dX9_then_14 : decode cX9_then 14 = .ok (.if_icmp .le 10, 3) := by decide +kernel
theorem dX9_then_17 : decode cX9_then 17 = .ok (.aload_n 0, 1) := by decide +kernel
theorem dX9_then_18 : decode cX9_then 18 = .ok (.bipush (-6), 2) := by decide +kernel
theorem dX9_then_20 : decode cX9_then 20 = .ok (.invokevirtual 85, 3) := by decide +kernel
theorem dX9_then_23 : decode cX9_then 23 = .ok (.ireturn, 1) := by decide +kernel
theorem dX9_then_24 : decode cX9_then 24 = .ok (.aload_n 0, 1) := by decide +kernel
theorem dX9_then_25 : decode cX9_then 25 = .ok (.getfield 52, 3) := by decide +kernel
theorem dX9_then_28 : decode cX9_then 28 = .ok (.iload_n 1, 1) := by decide +kernel
theorem dX9_then_29 : decode cX9_then 29 = .ok (.invokevirtual 189, 3) := by decide +kernel
theorem dX9_then_32 : decode cX9_then 32 = .ok (.ireturn, 1) := by decide +kernel
theorem dX9_door_0 : decode cX9_door 0 = .ok (.iload_n 1, 1) := by decide +kernel
theorem dX9_door_1 : decode cX9_door 1 = .ok (.iconst 2, 1) := by decide +kernel
theorem dX9_door_2 : decode cX9_door 2 = .ok (.invokestatic 115, 3) := by decide +kernel
theorem dX9_door_5 : decode cX9_door 5 = .ok (.ifCond .eq 10, 3) := by decide +kernel
theorem dX9_door_8 : decode cX9_door 8 = .ok (.aload_n 0, 1) := by decide +kernel
theorem dX9_door_9 : decode cX9_door 9 = .ok (.bipush (-2), 2) := by decide +kernel
theorem dX9_door_11 : decode cX9_door 11 = .ok (.invokevirtual 85, 3) := by decide +kernel
theorem dX9_door_14 : decode cX9_door 14 = .ok (.ireturn, 1) := by decide +kernel
theorem dX9_door_15 : decode cX9_door 15 = .ok (.aload_n 0, 1) := by decide +kernel
theorem dX9_door_16 : decode cX9_door 16 = .ok (.getfield 52, 3) := by decide +kernel
theorem dX9_door_19 : decode cX9_door 19 = .ok (.bipush 24, 2) := by decide +kernel
theorem dX9_door_21 : decode cX9_door 21 = .ok (.invokevirtual 189, 3) := by decide +kernel
theorem dX9_door_24 : decode cX9_door 24 = .ok (.istore_n 2, 1) := by decide +kernel
theorem dX9_door_25 : decode cX9_door 25 = .ok (.iload_n 1, 1) := by decide +kernel
theorem dX9_door_26 : decode cX9_door 26 = .ok (.ifCond .ne 5, 3) := by decide +kernel
theorem dX9_door_29 : decode cX9_door 29 = .ok (.iload_n 2, 1) := by decide +kernel
theorem dX9_door_30 : decode cX9_door 30 = .ok (.ireturn, 1) := by decide +kernel
theorem dX9_door_31 : decode cX9_door 31 = .ok (.iload_n 1, 1) := by decide +kernel
theorem dX9_door_32 : decode cX9_door 32 = .ok (.iconst 1, 1) := by decide +kernel
theorem dX9_door_33 : decode cX9_door 33 = .ok (.if_icmp .ne 10, 3) := by decide +kernel
theorem dX9_door_36 : decode cX9_door 36 = .ok (.iload_n 2, 1) := by decide +kernel
theorem dX9_door_37 : decode cX9_door 37 = .ok (.invokestatic 184, 3) := by decide +kernel
theorem dX9_door_40 : decode cX9_door 40 = .ok (.goto 11, 3) := by decide +kernel
theorem dX9_door_43 : decode cX9_door 43 = .ok (.aload_n 0, 1) := by decide +kernel
theorem dX9_door_44 : decode cX9_door 44 = .ok (.getfield 10, 3) := by decide +kernel
theorem dX9_door_47 : decode cX9_door 47 = .ok (.iload_n 2, 1) := by decide +kernel
theorem dX9_door_48 : decode cX9_door 48 = .ok (.invokevirtual 192, 3) := by decide +kernel
theorem dX9_door_51 : decode cX9_door 51 = .ok (.ireturn, 1) := by decide +kernel
theorem dX9_dark_0 : decode cX9_dark 0 = .ok (.iload_n 1, 1) := by decide +kernel
theorem dX9_dark_1 : decode cX9_dark 1 = .ok (.iconst 1, 1) := by decide +kernel
theorem dX9_dark_2 : decode cX9_dark 2 = .ok (.invokestatic 115, 3) := by decide +kernel
theorem dX9_dark_5 : decode cX9_dark 5 = .ok (.ifCond .eq 10, 3) := by decide +kernel
theorem dX9_dark_8 : decode cX9_dark 8 = .ok (.aload_n 0, 1) := by decide +kernel
theorem dX9_dark_9 : decode cX9_dark 9 = .ok (.bipush (-2), 2) := by decide +kernel
theorem dX9_dark_11 : decode cX9_dark 11 = .ok (.invokevirtual 85, 3) := by decide +kernel
theorem dX9_dark_14 : decode cX9_dark 14 = .ok (.ireturn, 1) := by decide +kernel
theorem dX9_dark_15 : decode cX9_dark 15 = .ok (.iload_n 1, 1) := by decide +kernel
theorem dX9_dark_16 : decode cX9_dark 16 = .ok (.ifCond .ne 13, 3) := by decide +kernel
theorem dX9_dark_19 : decode cX9_dark 19 = .ok (.aload_n 0, 1) := by decide +kernel
theorem dX9_dark_20 : decode cX9_dark 20 = .ok (.getfield 52, 3) := by decide +kernel
theorem dX9_dark_23 : decode cX9_dark 23 = .ok (.invokevirtual 195, 3) := by decide +kernel
theorem dX9_dark_26 : decode cX9_dark 26 = .ok (.goto 10, 3) := by decide +kernel
theorem dX9_dark_29 : decode cX9_dark 29 = .ok (.aload_n 0, 1) := by decide +kernel
theorem dX9_dark_30 : decode cX9_dark 30 = .ok (.getfield 52, 3) := by decide +kernel
theorem dX9_dark_33 : decode cX9_dark 33 = .ok (.invokevirtual 198, 3) := by decide +kernel
theorem dX9_dark_36 : decode cX9_dark 36 = .ok (.ireturn, 1) := by decide +kernel
theorem dX9_darkFor_0 : decode cX9_darkFor 0 = .ok (.aload_n 0, 1) := by decide +kernel
theorem dX9_darkFor_1 : decode cX9_darkFor 1 = .ok (.getfield 10, 3) := by decide +kernel
theorem dX9_darkFor_4 : decode cX9_darkFor 4 = .ok (.iload_n 1, 1) := by decide +kernel
theorem dX9_darkFor_5 : decode cX9_darkFor 5 = .ok (.invokevirtual 111, 3) := by decide +kernel
theorem dX9_darkFor_8 : decode cX9_darkFor 8 = .ok (.ifCond .eq 14, 3) := by decide +kernel
theorem dX9_darkFor_11 : decode cX9_darkFor 11 = .ok (.aload_n 0, 1) := by decide +kernel
theorem dX9_darkFor_12 : decode cX9_darkFor 12 = .ok (.getfield 52, 3) := by decide +kernel
theorem dX9_darkFor_15 : decode cX9_darkFor 15 = .ok (.iload_n 1, 1) := by decide +kernel
theorem dX9_darkFor_16 : decode cX9_darkFor 16 = .ok (.invokevirtual 201, 3) := by decide +kernel
theorem dX9_darkFor_19 : decode cX9_darkFor 19 = .ok (.goto 8, 3) := by decide +kernel
theorem dX9_darkFor_22 : decode cX9_darkFor 22 = .ok (.aload_n 0, 1) := by decide +kernel
theorem dX9_darkFor_23 : decode cX9_darkFor 23 = .ok (.iconst (-1), 1) := by decide +kernel
theorem dX9_darkFor_24 : decode cX9_darkFor 24 = .ok (.invokevirtual 85, 3) := by decide +kernel
theorem dX9_darkFor_27 : decode cX9_darkFor 27 = .ok (.ireturn, 1) := by decide +kernel
theorem dX9_litBy_0 : decode cX9_litBy 0 = .ok (.aload_n 0, 1) := by decide +kernel
theorem dX9_litBy_1 : decode cX9_litBy 1 = .ok (.getfield 10, 3) := by decide +kernel
theorem dX9_litBy_4 : decode cX9_litBy 4 = .ok (.iload_n 1, 1) := by decide +kernel
theorem dX9_litBy_5 : decode cX9_litBy 5 = .ok (.invokevirtual 111, 3) := by decide +kernel
theorem dX9_litBy_8 : decode cX9_litBy 8 = .ok (.ifCond .ne 9, 3) := by decide +kernel
theorem dX9_litBy_11 : decode cX9_litBy 11 = .ok (.aload_n 0, 1) := by decide +kernel
theorem dX9_litBy_12 : decode cX9_litBy 12 = .ok (.iconst (-1), 1) := by decide +kernel
theorem dX9_litBy_13 : decode cX9_litBy 13 = .ok (.invokevirtual 85, 3) := by decide +kernel
theorem dX9_litBy_16 : decode cX9_litBy 16 = .ok (.ireturn, 1) := by decide +kernel
theorem dX9_litBy_17 : decode cX9_litBy 17 = .ok (.iload_n 2, 1) := by decide +kernel
theorem dX9_litBy_18 : decode cX9_litBy 18 = .ok (.ifCond .ge 10, 3) := by decide +kernel
theorem dX9_litBy_21 : decode cX9_litBy 21 = .ok (.aload_n 0, 1) := by decide +kernel
theorem dX9_litBy_22 : decode cX9_litBy 22 = .ok (.bipush (-4), 2) := by decide +kernel
theorem dX9_litBy_24 : decode cX9_litBy 24 = .ok (.invokevirtual 85, 3) := by decide +kernel
theorem dX9_litBy_27 : decode cX9_litBy 27 = .ok (.ireturn, 1) := by decide +kernel
theorem dX9_litBy_28 : decode cX9_litBy 28 = .ok (.iload_n 2, 1) := by decide +kernel
theorem dX9_litBy_29 : decode cX9_litBy 29 = .ok (.bipush 24, 2) := by decide +kernel
theorem dX9_litBy_31 : decode cX9_litBy 31 = .ok (.if_icmp .le 10, 3) := by decide +kernel
theorem dX9_litBy_34 : decode cX9_litBy 34 = .ok (.aload_n 0, 1) := by decide +kernel
theorem dX9_litBy_35 : decode cX9_litBy 35 = .ok (.bipush (-6), 2) := by decide +kernel
theorem dX9_litBy_37 : decode cX9_litBy 37 = .ok (.invokevirtual 85, 3) := by decide +kernel
theorem dX9_litBy_40 : decode cX9_litBy 40 = .ok (.ireturn, 1) := by decide +kernel
theorem dX9_litBy_41 : decode cX9_litBy 41 = .ok (.aload_n 0, 1) := by decide +kernel
theorem dX9_litBy_42 : decode cX9_litBy 42 = .ok (.getfield 52, 3) := by decide +kernel
theorem dX9_litBy_45 : decode cX9_litBy 45 = .ok (.iload_n 1, 1) := by decide +kernel
theorem dX9_litBy_46 : decode cX9_litBy 46 = .ok (.iload_n 2, 1) := by decide +kernel
theorem dX9_litBy_47 : decode cX9_litBy 47 = .ok (.invokevirtual 204, 3) := by decide +kernel
theorem dX9_litBy_50 : decode cX9_litBy 50 = .ok (.ireturn, 1) := by decide +kernel
theorem dX9_stop_0 : decode cX9_stop 0 = .ok (.aload_n 0, 1) := by decide +kernel
theorem dX9_stop_1 : decode cX9_stop 1 = .ok (.getfield 59, 3) := by decide +kernel
theorem dX9_stop_4 : decode cX9_stop 4 = .ok (.invokevirtual 207, 3) := by decide +kernel
theorem dX9_stop_7 : decode cX9_stop 7 = .ok (.ireturn, 1) := by decide +kernel
theorem dX9_lower_0 : decode cX9_lower 0 = .ok (.aload_n 0, 1) := by decide +kernel
theorem dX9_lower_1 : decode cX9_lower 1 = .ok (.getfield 68, 3) := by decide +kernel
theorem dX9_lower_4 : decode cX9_lower 4 = .ok (.invokevirtual 210, 3) := by decide +kernel
theorem dX9_lower_7 : decode cX9_lower 7 = .ok (.ireturn, 1) := by decide +kernel
theorem dX9_changed_0 : decode cX9_changed 0 = .ok (.aload_n 0, 1) := by decide +kernel
theorem dX9_changed_1 : decode cX9_changed 1 = .ok (.getfield 68, 3) := by decide +kernel
theorem dX9_changed_4 : decode cX9_changed 4 = .ok (.invokevirtual 213, 3) := by decide +kernel
theorem dX9_changed_7 : decode cX9_changed 7 = .ok (.ireturn, 1) := by decide +kernel
theorem dX9_order_0 : decode cX9_order 0 = .ok (.iload_n 1, 1) := by decide +kernel
theorem dX9_order_1 : decode cX9_order 1 = .ok (.iconst 1, 1) := by decide +kernel
theorem dX9_order_2 : decode cX9_order 2 = .ok (.invokestatic 115, 3) := by decide +kernel
theorem dX9_order_5 : decode cX9_order 5 = .ok (.ifCond .eq 10, 3) := by decide +kernel
theorem dX9_order_8 : decode cX9_order 8 = .ok (.aload_n 0, 1) := by decide +kernel
theorem dX9_order_9 : decode cX9_order 9 = .ok (.bipush (-2), 2) := by decide +kernel
theorem dX9_order_11 : decode cX9_order 11 = .ok (.invokevirtual 85, 3) := by decide +kernel
theorem dX9_order_14 : decode cX9_order 14 = .ok (.ireturn, 1) := by decide +kernel
theorem dX9_order_15 : decode cX9_order 15 = .ok (.aload_n 0, 1) := by decide +kernel
theorem dX9_order_16 : decode cX9_order 16 = .ok (.getfield 10, 3) := by decide +kernel
theorem dX9_order_19 : decode cX9_order 19 = .ok (.getfield 216, 3) := by decide +kernel
theorem dX9_order_22 : decode cX9_order 22 = .ok (.ifCond .eq 15, 3) := by decide +kernel
theorem dX9_order_25 : decode cX9_order 25 = .ok (.aload_n 0, 1) := by decide +kernel
theorem dX9_order_26 : decode cX9_order 26 = .ok (.getfield 10, 3) := by decide +kernel
theorem dX9_order_29 : decode cX9_order 29 = .ok (.getfield 216, 3) := by decide +kernel
theorem dX9_order_32 : decode cX9_order 32 = .ok (.bipush 6, 2) := by decide +kernel
theorem dX9_order_34 : decode cX9_order 34 = .ok (.if_icmp .le 10, 3) := by decide +kernel
theorem dX9_order_37 : decode cX9_order 37 = .ok (.aload_n 0, 1) := by decide +kernel
theorem dX9_order_38 : decode cX9_order 38 = .ok (.bipush (-3), 2) := by decide +kernel
theorem dX9_order_40 : decode cX9_order 40 = .ok (.invokevirtual 85, 3) := by decide +kernel
theorem dX9_order_43 : decode cX9_order 43 = .ok (.ireturn, 1) := by decide +kernel
theorem dX9_order_44 : decode cX9_order 44 = .ok (.aload_n 0, 1) := by decide +kernel
theorem dX9_order_45 : decode cX9_order 45 = .ok (.getfield 68, 3) := by decide +kernel
theorem dX9_order_48 : decode cX9_order 48 = .ok (.invokevirtual 219, 3) := by decide +kernel
theorem dX9_order_51 : decode cX9_order 51 = .ok (.iload_n 1, 1) := by decide +kernel
theorem dX9_order_52 : decode cX9_order 52 = .ok (.ifCond .ne 13, 3) := by decide +kernel
theorem dX9_order_55 : decode cX9_order 55 = .ok (.aload_n 0, 1) := by decide +kernel
theorem dX9_order_56 : decode cX9_order 56 = .ok (.getfield 68, 3) := by decide +kernel
theorem dX9_order_59 : decode cX9_order 59 = .ok (.getfield 222, 3) := by decide +kernel
theorem dX9_order_62 : decode cX9_order 62 = .ok (.goto 10, 3) := by decide +kernel
theorem dX9_order_65 : decode cX9_order 65 = .ok (.aload_n 0, 1) := by decide +kernel
theorem dX9_order_66 : decode cX9_order 66 = .ok (.getfield 68, 3) := by decide +kernel
theorem dX9_order_69 : decode cX9_order 69 = .ok (.getfield 225, 3) := by decide +kernel
theorem dX9_order_72 : decode cX9_order 72 = .ok (.ireturn, 1) := by decide +kernel
theorem dX9_lantern_0 : decode cX9_lantern 0 = .ok (.iload_n 1, 1) := by decide +kernel
theorem dX9_lantern_1 : decode cX9_lantern 1 = .ok (.iconst 1, 1) := by decide +kernel
theorem dX9_lantern_2 : decode cX9_lantern 2 = .ok (.invokestatic 115, 3) := by decide +kernel
theorem dX9_lantern_5 : decode cX9_lantern 5 = .ok (.ifCond .eq 10, 3) := by decide +kernel
theorem dX9_lantern_8 : decode cX9_lantern 8 = .ok (.aload_n 0, 1) := by decide +kernel
theorem dX9_lantern_9 : decode cX9_lantern 9 = .ok (.bipush (-2), 2) := by decide +kernel
theorem dX9_lantern_11 : decode cX9_lantern 11 = .ok (.invokevirtual 85, 3) := by decide +kernel
theorem dX9_lantern_14 : decode cX9_lantern 14 = .ok (.ireturn, 1) := by decide +kernel
theorem dX9_lantern_15 : decode cX9_lantern 15 = .ok (.aload_n 0, 1) := by decide +kernel
theorem dX9_lantern_16 : decode cX9_lantern 16 = .ok (.getfield 10, 3) := by decide +kernel
theorem dX9_lantern_19 : decode cX9_lantern 19 = .ok (.getfield 216, 3) := by decide +kernel
theorem dX9_lantern_22 : decode cX9_lantern 22 = .ok (.ifCond .ne 10, 3) := by decide +kernel
theorem dX9_lantern_25 : decode cX9_lantern 25 = .ok (.aload_n 0, 1) := by decide +kernel
theorem dX9_lantern_26 : decode cX9_lantern 26 = .ok (.bipush (-3), 2) := by decide +kernel
theorem dX9_lantern_28 : decode cX9_lantern 28 = .ok (.invokevirtual 85, 3) := by decide +kernel
theorem dX9_lantern_31 : decode cX9_lantern 31 = .ok (.ireturn, 1) := by decide +kernel
theorem dX9_lantern_32 : decode cX9_lantern 32 = .ok (.aload_n 0, 1) := by decide +kernel
theorem dX9_lantern_33 : decode cX9_lantern 33 = .ok (.getfield 68, 3) := by decide +kernel
theorem dX9_lantern_36 : decode cX9_lantern 36 = .ok (.invokevirtual 228, 3) := by decide +kernel
theorem dX9_lantern_39 : decode cX9_lantern 39 = .ok (.iload_n 1, 1) := by decide +kernel
theorem dX9_lantern_40 : decode cX9_lantern 40 = .ok (.ifCond .ne 13, 3) := by decide +kernel
theorem dX9_lantern_43 : decode cX9_lantern 43 = .ok (.aload_n 0, 1) := by decide +kernel
theorem dX9_lantern_44 : decode cX9_lantern 44 = .ok (.getfield 68, 3) := by decide +kernel
theorem dX9_lantern_47 : decode cX9_lantern 47 = .ok (.getfield 222, 3) := by decide +kernel
theorem dX9_lantern_50 : decode cX9_lantern 50 = .ok (.goto 10, 3) := by decide +kernel
theorem dX9_lantern_53 : decode cX9_lantern 53 = .ok (.aload_n 0, 1) := by decide +kernel
theorem dX9_lantern_54 : decode cX9_lantern 54 = .ok (.getfield 68, 3) := by decide +kernel
theorem dX9_lantern_57 : decode cX9_lantern 57 = .ok (.getfield 225, 3) := by decide +kernel
theorem dX9_lantern_60 : decode cX9_lantern 60 = .ok (.ireturn, 1) := by decide +kernel
theorem dX9_fewest_0 : decode cX9_fewest 0 = .ok (.iload_n 1, 1) := by decide +kernel
theorem dX9_fewest_1 : decode cX9_fewest 1 = .ok (.iconst 1, 1) := by decide +kernel
theorem dX9_fewest_2 : decode cX9_fewest 2 = .ok (.invokestatic 115, 3) := by decide +kernel
theorem dX9_fewest_5 : decode cX9_fewest 5 = .ok (.ifCond .eq 10, 3) := by decide +kernel
theorem dX9_fewest_8 : decode cX9_fewest 8 = .ok (.aload_n 0, 1) := by decide +kernel
theorem dX9_fewest_9 : decode cX9_fewest 9 = .ok (.bipush (-2), 2) := by decide +kernel
theorem dX9_fewest_11 : decode cX9_fewest 11 = .ok (.invokevirtual 85, 3) := by decide +kernel
theorem dX9_fewest_14 : decode cX9_fewest 14 = .ok (.ireturn, 1) := by decide +kernel
theorem dX9_fewest_15 : decode cX9_fewest 15 = .ok (.iload_n 1, 1) := by decide +kernel
theorem dX9_fewest_16 : decode cX9_fewest 16 = .ok (.aload_n 0, 1) := by decide +kernel
theorem dX9_fewest_17 : decode cX9_fewest 17 = .ok (.getfield 68, 3) := by decide +kernel
theorem dX9_fewest_20 : decode cX9_fewest 20 = .ok (.invokevirtual 231, 3) := by decide +kernel
theorem dX9_fewest_23 : decode cX9_fewest 23 = .ok (.invokestatic 234, 3) := by decide +kernel
theorem dX9_fewest_26 : decode cX9_fewest 26 = .ok (.ireturn, 1) := by decide +kernel
theorem dX9_match_0 : decode cX9_match 0 = .ok (.aload_n 0, 1) := by decide +kernel
theorem dX9_match_1 : decode cX9_match 1 = .ok (.getfield 59, 3) := by decide +kernel
theorem dX9_match_4 : decode cX9_match 4 = .ok (.invokevirtual 237, 3) := by decide +kernel
theorem dX9_match_7 : decode cX9_match 7 = .ok (.ireturn, 1) := by decide +kernel
theorem dX9_tail_0 : decode cX9_tail 0 = .ok (.aload_n 0, 1) := by decide +kernel
theorem dX9_tail_1 : decode cX9_tail 1 = .ok (.getfield 10, 3) := by decide +kernel
theorem dX9_tail_4 : decode cX9_tail 4 = .ok (.getfield 216, 3) := by decide +kernel
theorem dX9_tail_7 : decode cX9_tail 7 = .ok (.ifCond .ne 12, 3) := by decide +kernel
theorem dX9_tail_10 : decode cX9_tail 10 = .ok (.aload_n 0, 1) := by decide +kernel
theorem dX9_tail_11 : decode cX9_tail 11 = .ok (.bipush (-3), 2) := by decide +kernel
theorem dX9_tail_13 : decode cX9_tail 13 = .ok (.invokevirtual 85, 3) := by decide +kernel
theorem dX9_tail_16 : decode cX9_tail 16 = .ok (.goto 10, 3) := by decide +kernel
theorem dX9_tail_19 : decode cX9_tail 19 = .ok (.aload_n 0, 1) := by decide +kernel
theorem dX9_tail_20 : decode cX9_tail 20 = .ok (.getfield 68, 3) := by decide +kernel
theorem dX9_tail_23 : decode cX9_tail 23 = .ok (.invokevirtual 240, 3) := by decide +kernel
theorem dX9_tail_26 : decode cX9_tail 26 = .ok (.ireturn, 1) := by decide +kernel
theorem dX9_rule_0 : decode cX9_rule 0 = .ok (.iload_n 1, 1) := by decide +kernel
theorem dX9_rule_1 : decode cX9_rule 1 = .ok (.iconst 4, 1) := by decide +kernel
theorem dX9_rule_2 : decode cX9_rule 2 = .ok (.invokestatic 115, 3) := by decide +kernel
theorem dX9_rule_5 : decode cX9_rule 5 = .ok (.ifCond .ne 11, 3) := by decide +kernel
theorem dX9_rule_8 : decode cX9_rule 8 = .ok (.iload_n 2, 1) := by decide +kernel
theorem dX9_rule_9 : decode cX9_rule 9 = .ok (.iconst 1, 1) := by decide +kernel
theorem dX9_rule_10 : decode cX9_rule 10 = .ok (.invokestatic 115, 3) := by decide +kernel
theorem dX9_rule_13 : decode cX9_rule 13 = .ok (.ifCond .eq 10, 3) := by decide +kernel
theorem dX9_rule_16 : decode cX9_rule 16 = .ok (.aload_n 0, 1) := by decide +kernel
theorem dX9_rule_17 : decode cX9_rule 17 = .ok (.bipush (-2), 2) := by decide +kernel
theorem dX9_rule_19 : decode cX9_rule 19 = .ok (.invokevirtual 85, 3) := by decide +kernel
theorem dX9_rule_22 : decode cX9_rule 22 = .ok (.ireturn, 1) := by decide +kernel
theorem dX9_rule_23 : decode cX9_rule 23 = .ok (.aload_n 0, 1) := by decide +kernel
theorem dX9_rule_24 : decode cX9_rule 24 = .ok (.getfield 59, 3) := by decide +kernel
theorem dX9_rule_27 : decode cX9_rule 27 = .ok (.iload_n 1, 1) := by decide +kernel
theorem dX9_rule_28 : decode cX9_rule 28 = .ok (.invokevirtual 243, 3) := by decide +kernel
theorem dX9_rule_31 : decode cX9_rule 31 = .ok (.iload_n 2, 1) := by decide +kernel
theorem dX9_rule_32 : decode cX9_rule 32 = .ok (.ifCond .ne 13, 3) := by decide +kernel
theorem dX9_rule_35 : decode cX9_rule 35 = .ok (.aload_n 0, 1) := by decide +kernel
theorem dX9_rule_36 : decode cX9_rule 36 = .ok (.getfield 59, 3) := by decide +kernel
theorem dX9_rule_39 : decode cX9_rule 39 = .ok (.getfield 247, 3) := by decide +kernel
theorem dX9_rule_42 : decode cX9_rule 42 = .ok (.goto 10, 3) := by decide +kernel
theorem dX9_rule_45 : decode cX9_rule 45 = .ok (.aload_n 0, 1) := by decide +kernel
theorem dX9_rule_46 : decode cX9_rule 46 = .ok (.getfield 59, 3) := by decide +kernel
theorem dX9_rule_49 : decode cX9_rule 49 = .ok (.getfield 250, 3) := by decide +kernel
theorem dX9_rule_52 : decode cX9_rule 52 = .ok (.ireturn, 1) := by decide +kernel
theorem dX9_best_0 : decode cX9_best 0 = .ok (.aload_n 0, 1) := by decide +kernel
theorem dX9_best_1 : decode cX9_best 1 = .ok (.getfield 59, 3) := by decide +kernel
theorem dX9_best_4 : decode cX9_best 4 = .ok (.invokevirtual 253, 3) := by decide +kernel
theorem dX9_best_7 : decode cX9_best 7 = .ok (.ireturn, 1) := by decide +kernel
theorem dX9_calm_0 : decode cX9_calm 0 = .ok (.iload_n 1, 1) := by decide +kernel
theorem dX9_calm_1 : decode cX9_calm 1 = .ok (.iconst 1, 1) := by decide +kernel
theorem dX9_calm_2 : decode cX9_calm 2 = .ok (.if_icmp .lt 7, 3) := by decide +kernel
theorem dX9_calm_5 : decode cX9_calm 5 = .ok (.iload_n 2, 1) := by decide +kernel
theorem dX9_calm_6 : decode cX9_calm 6 = .ok (.ifCond .ge 10, 3) := by decide +kernel
theorem dX9_calm_9 : decode cX9_calm 9 = .ok (.aload_n 0, 1) := by decide +kernel
theorem dX9_calm_10 : decode cX9_calm 10 = .ok (.bipush (-4), 2) := by decide +kernel
theorem dX9_calm_12 : decode cX9_calm 12 = .ok (.invokevirtual 85, 3) := by decide +kernel
theorem dX9_calm_15 : decode cX9_calm 15 = .ok (.ireturn, 1) := by decide +kernel
theorem dX9_calm_16 : decode cX9_calm 16 = .ok (.iload_n 1, 1) := by decide +kernel
theorem dX9_calm_17 : decode cX9_calm 17 = .ok (.bipush 99, 2) := by decide +kernel
theorem dX9_calm_19 : decode cX9_calm 19 = .ok (.if_icmp .gt 9, 3) := by decide +kernel
theorem dX9_calm_22 : decode cX9_calm 22 = .ok (.iload_n 2, 1) := by decide +kernel
theorem dX9_calm_23 : decode cX9_calm 23 = .ok (.bipush 99, 2) := by decide +kernel
theorem dX9_calm_25 : decode cX9_calm 25 = .ok (.if_icmp .le 10, 3) := by decide +kernel
theorem dX9_calm_28 : decode cX9_calm 28 = .ok (.aload_n 0, 1) := by decide +kernel
theorem dX9_calm_29 : decode cX9_calm 29 = .ok (.bipush (-6), 2) := by decide +kernel
theorem dX9_calm_31 : decode cX9_calm 31 = .ok (.invokevirtual 85, 3) := by decide +kernel
theorem dX9_calm_34 : decode cX9_calm 34 = .ok (.ireturn, 1) := by decide +kernel
theorem dX9_calm_35 : decode cX9_calm 35 = .ok (.iconst 2, 1) := by decide +kernel
theorem dX9_calm_36 : decode cX9_calm 36 = .ok (.iload_n 2, 1) := by decide +kernel
theorem dX9_calm_37 : decode cX9_calm 37 = .ok (.imul, 1) := by decide +kernel
theorem dX9_calm_38 : decode cX9_calm 38 = .ok (.iconst 1, 1) := by decide +kernel
theorem dX9_calm_39 : decode cX9_calm 39 = .ok (.iadd, 1) := by decide +kernel
theorem dX9_calm_40 : decode cX9_calm 40 = .ok (.istore_n 3, 1) := by decide +kernel
theorem dX9_calm_41 : decode cX9_calm 41 = .ok (.iload_n 1, 1) := by decide +kernel
theorem dX9_calm_42 : decode cX9_calm 42 = .ok (.iload_n 3, 1) := by decide +kernel
theorem dX9_calm_43 : decode cX9_calm 43 = .ok (.iadd, 1) := by decide +kernel
theorem dX9_calm_44 : decode cX9_calm 44 = .ok (.iconst 1, 1) := by decide +kernel
theorem dX9_calm_45 : decode cX9_calm 45 = .ok (.isub, 1) := by decide +kernel
theorem dX9_calm_46 : decode cX9_calm 46 = .ok (.iload_n 3, 1) := by decide +kernel
theorem dX9_calm_47 : decode cX9_calm 47 = .ok (.idiv, 1) := by decide +kernel
theorem dX9_calm_48 : decode cX9_calm 48 = .ok (.ireturn, 1) := by decide +kernel
theorem dX9_spreads_0 : decode cX9_spreads 0 = .ok (.iload_n 1, 1) := by decide +kernel
theorem dX9_spreads_1 : decode cX9_spreads 1 = .ok (.iconst 1, 1) := by decide +kernel
theorem dX9_spreads_2 : decode cX9_spreads 2 = .ok (.if_icmp .lt 7, 3) := by decide +kernel
theorem dX9_spreads_5 : decode cX9_spreads 5 = .ok (.iload_n 2, 1) := by decide +kernel
theorem dX9_spreads_6 : decode cX9_spreads 6 = .ok (.ifCond .ge 10, 3) := by decide +kernel
theorem dX9_spreads_9 : decode cX9_spreads 9 = .ok (.aload_n 0, 1) := by decide +kernel
theorem dX9_spreads_10 : decode cX9_spreads 10 = .ok (.bipush (-4), 2) := by decide +kernel
theorem dX9_spreads_12 : decode cX9_spreads 12 = .ok (.invokevirtual 85, 3) := by decide +kernel
theorem dX9_spreads_15 : decode cX9_spreads 15 = .ok (.ireturn, 1) := by decide +kernel
theorem dX9_spreads_16 : decode cX9_spreads 16 = .ok (.iload_n 1, 1) := by decide +kernel
theorem dX9_spreads_17 : decode cX9_spreads 17 = .ok (.bipush 99, 2) := by decide +kernel
theorem dX9_spreads_19 : decode cX9_spreads 19 = .ok (.if_icmp .gt 9, 3) := by decide +kernel
theorem dX9_spreads_22 : decode cX9_spreads 22 = .ok (.iload_n 2, 1) := by decide +kernel
theorem dX9_spreads_23 : decode cX9_spreads 23 = .ok (.bipush 99, 2) := by decide +kernel
theorem dX9_spreads_25 : decode cX9_spreads 25 = .ok (.if_icmp .le 10, 3) := by decide +kernel
theorem dX9_spreads_28 : decode cX9_spreads 28 = .ok (.aload_n 0, 1) := by decide +kernel
theorem dX9_spreads_29 : decode cX9_spreads 29 = .ok (.bipush (-6), 2) := by decide +kernel
theorem dX9_spreads_31 : decode cX9_spreads 31 = .ok (.invokevirtual 85, 3) := by decide +kernel
theorem dX9_spreads_34 : decode cX9_spreads 34 = .ok (.ireturn, 1) := by decide +kernel
theorem dX9_spreads_35 : decode cX9_spreads 35 = .ok (.iload_n 2, 1) := by decide +kernel
theorem dX9_spreads_36 : decode cX9_spreads 36 = .ok (.iload_n 1, 1) := by decide +kernel
theorem dX9_spreads_37 : decode cX9_spreads 37 = .ok (.if_icmp .lt 9, 3) := by decide +kernel
theorem dX9_spreads_40 : decode cX9_spreads 40 = .ok (.aload_n 0, 1) := by decide +kernel
theorem dX9_spreads_41 : decode cX9_spreads 41 = .ok (.iconst (-1), 1) := by decide +kernel
theorem dX9_spreads_42 : decode cX9_spreads 42 = .ok (.invokevirtual 85, 3) := by decide +kernel
theorem dX9_spreads_45 : decode cX9_spreads 45 = .ok (.ireturn, 1) := by decide +kernel
theorem dX9_spreads_46 : decode cX9_spreads 46 = .ok (.iload_n 2, 1) := by decide +kernel
theorem dX9_spreads_47 : decode cX9_spreads 47 = .ok (.iload_n 1, 1) := by decide +kernel
theorem dX9_spreads_48 : decode cX9_spreads 48 = .ok (.iconst 1, 1) := by decide +kernel
theorem dX9_spreads_49 : decode cX9_spreads 49 = .ok (.isub, 1) := by decide +kernel
theorem dX9_spreads_50 : decode cX9_spreads 50 = .ok (.iload_n 2, 1) := by decide +kernel
theorem dX9_spreads_51 : decode cX9_spreads 51 = .ok (.isub, 1) := by decide +kernel
theorem dX9_spreads_52 : decode cX9_spreads 52 = .ok (.invokestatic 256, 3) := by decide +kernel
theorem dX9_spreads_55 : decode cX9_spreads 55 = .ok (.ireturn, 1) := by decide +kernel
theorem dX9_chances_0 : decode cX9_chances 0 = .ok (.iload_n 1, 1) := by decide +kernel
theorem dX9_chances_1 : decode cX9_chances 1 = .ok (.ifCond .ge 10, 3) := by decide +kernel
theorem dX9_chances_4 : decode cX9_chances 4 = .ok (.aload_n 0, 1) := by decide +kernel
theorem dX9_chances_5 : decode cX9_chances 5 = .ok (.bipush (-4), 2) := by decide +kernel
theorem dX9_chances_7 : decode cX9_chances 7 = .ok (.invokevirtual 261, 3) := by decide +kernel
theorem dX9_chances_10 : decode cX9_chances 10 = .ok (.lreturn, 1) := by decide +kernel
theorem dX9_chances_11 : decode cX9_chances 11 = .ok (.iload_n 1, 1) := by decide +kernel
theorem dX9_chances_12 : decode cX9_chances 12 = .ok (.iconst 3, 1) := by decide +kernel
theorem dX9_chances_13 : decode cX9_chances 13 = .ok (.if_icmp .le 10, 3) := by decide +kernel
theorem dX9_chances_16 : decode cX9_chances 16 = .ok (.aload_n 0, 1) := by decide +kernel
theorem dX9_chances_17 : decode cX9_chances 17 = .ok (.bipush (-6), 2) := by decide +kernel
theorem dX9_chances_19 : decode cX9_chances 19 = .ok (.invokevirtual 261, 3) := by decide +kernel
theorem dX9_chances_22 : decode cX9_chances 22 = .ok (.lreturn, 1) := by decide +kernel
theorem dX9_chances_23 : decode cX9_chances 23 = .ok (.iload_n 2, 1) := by decide +kernel
theorem dX9_chances_24 : decode cX9_chances 24 = .ok (.iconst 1, 1) := by decide +kernel
theorem dX9_chances_25 : decode cX9_chances 25 = .ok (.invokestatic 115, 3) := by decide +kernel
theorem dX9_chances_28 : decode cX9_chances 28 = .ok (.ifCond .ne 11, 3) := by decide +kernel
theorem dX9_chances_31 : decode cX9_chances 31 = .ok (.iload_n 3, 1) := by decide +kernel
theorem dX9_chances_32 : decode cX9_chances 32 = .ok (.iconst 1, 1) := by decide +kernel
theorem dX9_chances_33 : decode cX9_chances 33 = .ok (.invokestatic 115, 3) := by decide +kernel
theorem dX9_chances_36 : decode cX9_chances 36 = .ok (.ifCond .eq 10, 3) := by decide +kernel
theorem dX9_chances_39 : decode cX9_chances 39 = .ok (.aload_n 0, 1) := by decide +kernel
theorem dX9_chances_40 : decode cX9_chances 40 = .ok (.bipush (-2), 2) := by decide +kernel
theorem dX9_chances_42 : decode cX9_chances 42 = .ok (.invokevirtual 261, 3) := by decide +kernel
theorem dX9_chances_45 : decode cX9_chances 45 = .ok (.lreturn, 1) := by decide +kernel
theorem dX9_chances_46 : decode cX9_chances 46 = .ok (.aload_n 0, 1) := by decide +kernel
theorem dX9_chances_47 : decode cX9_chances 47 = .ok (.getfield 10, 3) := by decide +kernel
theorem dX9_chances_50 : decode cX9_chances 50 = .ok (.getfield 216, 3) := by decide +kernel
theorem dX9_chances_53 : decode cX9_chances 53 = .ok (.iconst 4, 1) := by decide +kernel
theorem dX9_chances_54 : decode cX9_chances 54 = .ok (.if_icmp .gt 22, 3) := by decide +kernel
theorem dX9_chances_57 : decode cX9_chances 57 = .ok (.aload_n 0, 1) := by decide +kernel
theorem dX9_chances_58 : decode cX9_chances 58 = .ok (.getfield 10, 3) := by decide +kernel
theorem dX9_chances_61 : decode cX9_chances 61 = .ok (.getfield 265, 3) := by decide +kernel
theorem dX9_chances_64 : decode cX9_chances 64 = .ok (.aload_n 0, 1) := by decide +kernel
theorem dX9_chances_65 : decode cX9_chances 65 = .ok (.getfield 10, 3) := by decide +kernel
theorem dX9_chances_68 : decode cX9_chances 68 = .ok (.getfield 155, 3) := by decide +kernel
theorem dX9_chances_71 : decode cX9_chances 71 = .ok (.isub, 1) := by decide +kernel
theorem dX9_chances_72 : decode cX9_chances 72 = .ok (.iload_n 1, 1) := by decide +kernel
theorem dX9_chances_73 : decode cX9_chances 73 = .ok (.if_icmp .ge 10, 3) := by decide +kernel
theorem dX9_chances_76 : decode cX9_chances 76 = .ok (.aload_n 0, 1) := by decide +kernel
theorem dX9_chances_77 : decode cX9_chances 77 = .ok (.bipush (-3), 2) := by decide +kernel
theorem dX9_chances_79 : decode cX9_chances 79 = .ok (.invokevirtual 261, 3) := by decide +kernel
theorem dX9_chances_82 : decode cX9_chances 82 = .ok (.lreturn, 1) := by decide +kernel
theorem dX9_chances_83 : decode cX9_chances 83 = .ok (.aload_n 0, 1) := by decide +kernel
theorem dX9_chances_84 : decode cX9_chances 84 = .ok (.getfield 77, 3) := by decide +kernel
theorem dX9_chances_87 : decode cX9_chances 87 = .ok (.aload_n 0, 1) := by decide +kernel
theorem dX9_chances_88 : decode cX9_chances 88 = .ok (.getfield 10, 3) := by decide +kernel
theorem dX9_chances_91 : decode cX9_chances 91 = .ok (.iload_n 1, 1) := by decide +kernel
theorem dX9_chances_92 : decode cX9_chances 92 = .ok (.invokevirtual 268, 3) := by decide +kernel
theorem dX9_chances_95 : decode cX9_chances 95 = .ok (.aload_n 0, 1) := by decide +kernel
theorem dX9_chances_96 : decode cX9_chances 96 = .ok (.getfield 77, 3) := by decide +kernel
theorem dX9_chances_99 : decode cX9_chances 99 = .ok (.iload_n 2, 1) := by decide +kernel
theorem dX9_chances_100 : decode cX9_chances 100 = .ok (.iconst 1, 1) := by decide +kernel
theorem dX9_chances_101 : decode cX9_chances 101 = .ok (.if_icmp .ne 7, 3) := by decide +kernel
theorem dX9_chances_104 : decode cX9_chances 104 = .ok (.iconst 1, 1) := by decide +kernel
theorem dX9_chances_105 : decode cX9_chances 105 = .ok (.goto 4, 3) := by decide +kernel
theorem dX9_chances_108 : decode cX9_chances 108 = .ok (.iconst 0, 1) := by decide +kernel
theorem dX9_chances_109 : decode cX9_chances 109 = .ok (.iload_n 3, 1) := by decide +kernel
theorem dX9_chances_110 : decode cX9_chances 110 = .ok (.iconst 1, 1) := by decide +kernel
theorem dX9_chances_111 : decode cX9_chances 111 = .ok (.if_icmp .ne 7, 3) := by decide +kernel
theorem dX9_chances_114 : decode cX9_chances 114 = .ok (.iconst 1, 1) := by decide +kernel
theorem dX9_chances_115 : decode cX9_chances 115 = .ok (.goto 4, 3) := by decide +kernel
theorem dX9_chances_118 : decode cX9_chances 118 = .ok (.iconst 0, 1) := by decide +kernel
theorem dX9_chances_119 : decode cX9_chances 119 = .ok (.invokevirtual 272, 3) := by decide +kernel
theorem dX9_chances_122 : decode cX9_chances 122 = .ok (.lreturn, 1) := by decide +kernel
theorem dX9_wax_0 : decode cX9_wax 0 = .ok (.iload_n 1, 1) := by decide +kernel
theorem dX9_wax_1 : decode cX9_wax 1 = .ok (.iconst 1, 1) := by decide +kernel
theorem dX9_wax_2 : decode cX9_wax 2 = .ok (.invokestatic 115, 3) := by decide +kernel
theorem dX9_wax_5 : decode cX9_wax 5 = .ok (.ifCond .eq 10, 3) := by decide +kernel
theorem dX9_wax_8 : decode cX9_wax 8 = .ok (.aload_n 0, 1) := by decide +kernel
theorem dX9_wax_9 : decode cX9_wax 9 = .ok (.bipush (-2), 2) := by decide +kernel
theorem dX9_wax_11 : decode cX9_wax 11 = .ok (.invokevirtual 85, 3) := by decide +kernel
theorem dX9_wax_14 : decode cX9_wax 14 = .ok (.ireturn, 1) := by decide +kernel
theorem dX9_wax_15 : decode cX9_wax 15 = .ok (.aload_n 0, 1) := by decide +kernel
theorem dX9_wax_16 : decode cX9_wax 16 = .ok (.getfield 45, 3) := by decide +kernel
theorem dX9_wax_19 : decode cX9_wax 19 = .ok (.getfield 276, 3) := by decide +kernel
theorem dX9_wax_22 : decode cX9_wax 22 = .ok (.aload_n 0, 1) := by decide +kernel
theorem dX9_wax_23 : decode cX9_wax 23 = .ok (.getfield 10, 3) := by decide +kernel
theorem dX9_wax_26 : decode cX9_wax 26 = .ok (.getfield 216, 3) := by decide +kernel
theorem dX9_wax_29 : decode cX9_wax 29 = .ok (.if_icmp .eq 10, 3) := by decide +kernel
theorem dX9_wax_32 : decode cX9_wax 32 = .ok (.aload_n 0, 1) := by decide +kernel
theorem dX9_wax_33 : decode cX9_wax 33 = .ok (.bipush (-3), 2) := by decide +kernel
theorem dX9_wax_35 : decode cX9_wax 35 = .ok (.invokevirtual 85, 3) := by decide +kernel
theorem dX9_wax_38 : decode cX9_wax 38 = .ok (.ireturn, 1) := by decide +kernel
theorem dX9_wax_39 : decode cX9_wax 39 = .ok (.aload_n 0, 1) := by decide +kernel
theorem dX9_wax_40 : decode cX9_wax 40 = .ok (.getfield 52, 3) := by decide +kernel
theorem dX9_wax_43 : decode cX9_wax 43 = .ok (.aload_n 0, 1) := by decide +kernel
theorem dX9_wax_44 : decode cX9_wax 44 = .ok (.getfield 45, 3) := by decide +kernel
theorem dX9_wax_47 : decode cX9_wax 47 = .ok (.invokevirtual 277, 3) := by decide +kernel
theorem dX9_wax_50 : decode cX9_wax 50 = .ok (.iload_n 1, 1) := by decide +kernel
theorem dX9_wax_51 : decode cX9_wax 51 = .ok (.ifCond .ne 13, 3) := by decide +kernel
theorem dX9_wax_54 : decode cX9_wax 54 = .ok (.aload_n 0, 1) := by decide +kernel
theorem dX9_wax_55 : decode cX9_wax 55 = .ok (.getfield 52, 3) := by decide +kernel
theorem dX9_wax_58 : decode cX9_wax 58 = .ok (.getfield 281, 3) := by decide +kernel
theorem dX9_wax_61 : decode cX9_wax 61 = .ok (.goto 10, 3) := by decide +kernel
theorem dX9_wax_64 : decode cX9_wax 64 = .ok (.aload_n 0, 1) := by decide +kernel
theorem dX9_wax_65 : decode cX9_wax 65 = .ok (.getfield 52, 3) := by decide +kernel
theorem dX9_wax_68 : decode cX9_wax 68 = .ok (.getfield 284, 3) := by decide +kernel
theorem dX9_wax_71 : decode cX9_wax 71 = .ok (.ireturn, 1) := by decide +kernel
theorem dX9_sides_0 : decode cX9_sides 0 = .ok (.aload_n 0, 1) := by decide +kernel
theorem dX9_sides_1 : decode cX9_sides 1 = .ok (.getfield 68, 3) := by decide +kernel
theorem dX9_sides_4 : decode cX9_sides 4 = .ok (.invokevirtual 287, 3) := by decide +kernel
theorem dX9_sides_7 : decode cX9_sides 7 = .ok (.ireturn, 1) := by decide +kernel
theorem dX9_row_0 : decode cX9_row 0 = .ok (.iload_n 1, 1) := by decide +kernel
theorem dX9_row_1 : decode cX9_row 1 = .ok (.ifCond .ge 10, 3) := by decide +kernel
theorem dX9_row_4 : decode cX9_row 4 = .ok (.aload_n 0, 1) := by decide +kernel
theorem dX9_row_5 : decode cX9_row 5 = .ok (.bipush (-4), 2) := by decide +kernel
theorem dX9_row_7 : decode cX9_row 7 = .ok (.invokevirtual 85, 3) := by decide +kernel
theorem dX9_row_10 : decode cX9_row 10 = .ok (.ireturn, 1) := by decide +kernel
theorem dX9_row_11 : decode cX9_row 11 = .ok (.iload_n 1, 1) := by decide +kernel
theorem dX9_row_12 : decode cX9_row 12 = .ok (.bipush 99, 2) := by decide +kernel
theorem dX9_row_14 : decode cX9_row 14 = .ok (.if_icmp .gt 13, 3) := by decide +kernel
theorem dX9_row_17 : decode cX9_row 17 = .ok (.aload_n 0, 1) := by decide +kernel
theorem dX9_row_18 : decode cX9_row 18 = .ok (.getfield 45, 3) := by decide +kernel
theorem dX9_row_21 : decode cX9_row 21 = .ok (.invokevirtual 290, 3) := by decide +kernel
theorem dX9_row_24 : decode cX9_row 24 = .ok (.ifCond .eq 10, 3) := by decide +kernel
theorem dX9_row_27 : decode cX9_row 27 = .ok (.aload_n 0, 1) := by decide +kernel
theorem dX9_row_28 : decode cX9_row 28 = .ok (.bipush (-6), 2) := by decide +kernel
theorem dX9_row_30 : decode cX9_row 30 = .ok (.invokevirtual 85, 3) := by decide +kernel
theorem dX9_row_33 : decode cX9_row 33 = .ok (.ireturn, 1) := by decide +kernel
theorem dX9_row_34 : decode cX9_row 34 = .ok (.aload_n 0, 1) := by decide +kernel
theorem dX9_row_35 : decode cX9_row 35 = .ok (.getfield 45, 3) := by decide +kernel
theorem dX9_row_38 : decode cX9_row 38 = .ok (.iload_n 1, 1) := by decide +kernel
theorem dX9_row_39 : decode cX9_row 39 = .ok (.invokevirtual 291, 3) := by decide +kernel
theorem dX9_row_42 : decode cX9_row 42 = .ok (.ireturn, 1) := by decide +kernel
theorem dX9_judge_0 : decode cX9_judge 0 = .ok (.aload_n 0, 1) := by decide +kernel
theorem dX9_judge_1 : decode cX9_judge 1 = .ok (.getfield 52, 3) := by decide +kernel
theorem dX9_judge_4 : decode cX9_judge 4 = .ok (.aload_n 0, 1) := by decide +kernel
theorem dX9_judge_5 : decode cX9_judge 5 = .ok (.getfield 45, 3) := by decide +kernel
theorem dX9_judge_8 : decode cX9_judge 8 = .ok (.invokevirtual 292, 3) := by decide +kernel
theorem dX9_judge_11 : decode cX9_judge 11 = .ok (.istore_n 1, 1) := by decide +kernel
theorem dX9_judge_12 : decode cX9_judge 12 = .ok (.aload_n 0, 1) := by decide +kernel
theorem dX9_judge_13 : decode cX9_judge 13 = .ok (.getfield 45, 3) := by decide +kernel
theorem dX9_judge_16 : decode cX9_judge 16 = .ok (.iconst 0, 1) := by decide +kernel
theorem dX9_judge_17 : decode cX9_judge 17 = .ok (.putfield 276, 3) := by decide +kernel
theorem dX9_judge_20 : decode cX9_judge 20 = .ok (.iload_n 1, 1) := by decide +kernel
theorem dX9_judge_21 : decode cX9_judge 21 = .ok (.ireturn, 1) := by decide +kernel
theorem dX9_clear_0 : decode cX9_clear 0 = .ok (.aload_n 0, 1) := by decide +kernel
theorem dX9_clear_1 : decode cX9_clear 1 = .ok (.getfield 45, 3) := by decide +kernel
theorem dX9_clear_4 : decode cX9_clear 4 = .ok (.getfield 276, 3) := by decide +kernel
theorem dX9_clear_7 : decode cX9_clear 7 = .ok (.istore_n 1, 1) := by decide +kernel
theorem dX9_clear_8 : decode cX9_clear 8 = .ok (.aload_n 0, 1) := by decide +kernel
theorem dX9_clear_9 : decode cX9_clear 9 = .ok (.getfield 45, 3) := by decide +kernel
theorem dX9_clear_12 : decode cX9_clear 12 = .ok (.iconst 0, 1) := by decide +kernel
theorem dX9_clear_13 : decode cX9_clear 13 = .ok (.putfield 276, 3) := by decide +kernel
theorem dX9_clear_16 : decode cX9_clear 16 = .ok (.iload_n 1, 1) := by decide +kernel
theorem dX9_clear_17 : decode cX9_clear 17 = .ok (.ireturn, 1) := by decide +kernel
theorem dX9_seeds_0 : decode cX9_seeds 0 = .ok (.iload_n 1, 1) := by decide +kernel
theorem dX9_seeds_1 : decode cX9_seeds 1 = .ok (.iconst 1, 1) := by decide +kernel
theorem dX9_seeds_2 : decode cX9_seeds 2 = .ok (.if_icmp .ge 10, 3) := by decide +kernel
theorem dX9_seeds_5 : decode cX9_seeds 5 = .ok (.aload_n 0, 1) := by decide +kernel
theorem dX9_seeds_6 : decode cX9_seeds 6 = .ok (.bipush (-4), 2) := by decide +kernel
theorem dX9_seeds_8 : decode cX9_seeds 8 = .ok (.invokevirtual 85, 3) := by decide +kernel
theorem dX9_seeds_11 : decode cX9_seeds 11 = .ok (.ireturn, 1) := by decide +kernel
theorem dX9_seeds_12 : decode cX9_seeds 12 = .ok (.iload_n 1, 1) := by decide +kernel
theorem dX9_seeds_13 : decode cX9_seeds 13 = .ok (.bipush 20, 2) := by decide +kernel
theorem dX9_seeds_15 : decode cX9_seeds 15 = .ok (.if_icmp .le 10, 3) := by decide +kernel
theorem dX9_seeds_18 : decode cX9_seeds 18 = .ok (.aload_n 0, 1) := by decide +kernel
theorem dX9_seeds_19 : decode cX9_seeds 19 = .ok (.bipush (-6), 2) := by decide +kernel
theorem dX9_seeds_21 : decode cX9_seeds 21 = .ok (.invokevirtual 85, 3) := by decide +kernel
theorem dX9_seeds_24 : decode cX9_seeds 24 = .ok (.ireturn, 1) := by decide +kernel
theorem dX9_seeds_25 : decode cX9_seeds 25 = .ok (.iload_n 3, 1) := by decide +kernel
theorem dX9_seeds_26 : decode cX9_seeds 26 = .ok (.iconst 1, 1) := by decide +kernel
theorem dX9_seeds_27 : decode cX9_seeds 27 = .ok (.invokestatic 115, 3) := by decide +kernel
theorem dX9_seeds_30 : decode cX9_seeds 30 = .ok (.ifCond .eq 10, 3) := by decide +kernel
theorem dX9_seeds_33 : decode cX9_seeds 33 = .ok (.aload_n 0, 1) := by decide +kernel
theorem dX9_seeds_34 : decode cX9_seeds 34 = .ok (.bipush (-2), 2) := by decide +kernel
theorem dX9_seeds_36 : decode cX9_seeds 36 = .ok (.invokevirtual 85, 3) := by decide +kernel
theorem dX9_seeds_39 : decode cX9_seeds 39 = .ok (.ireturn, 1) := by decide +kernel
theorem dX9_seeds_40 : decode cX9_seeds 40 = .ok (.aload_n 0, 1) := by decide +kernel
theorem dX9_seeds_41 : decode cX9_seeds 41 = .ok (.getfield 68, 3) := by decide +kernel
theorem dX9_seeds_44 : decode cX9_seeds 44 = .ok (.iload_n 1, 1) := by decide +kernel
theorem dX9_seeds_45 : decode cX9_seeds 45 = .ok (.iload_n 2, 1) := by decide +kernel
theorem dX9_seeds_46 : decode cX9_seeds 46 = .ok (.invokevirtual 296, 3) := by decide +kernel
theorem dX9_seeds_49 : decode cX9_seeds 49 = .ok (.iload_n 3, 1) := by decide +kernel
theorem dX9_seeds_50 : decode cX9_seeds 50 = .ok (.ifCond .ne 13, 3) := by decide +kernel
theorem dX9_seeds_53 : decode cX9_seeds 53 = .ok (.aload_n 0, 1) := by decide +kernel
theorem dX9_seeds_54 : decode cX9_seeds 54 = .ok (.getfield 68, 3) := by decide +kernel
theorem dX9_seeds_57 : decode cX9_seeds 57 = .ok (.getfield 299, 3) := by decide +kernel
theorem dX9_seeds_60 : decode cX9_seeds 60 = .ok (.goto 10, 3) := by decide +kernel
theorem dX9_seeds_63 : decode cX9_seeds 63 = .ok (.aload_n 0, 1) := by decide +kernel
theorem dX9_seeds_64 : decode cX9_seeds 64 = .ok (.getfield 68, 3) := by decide +kernel
theorem dX9_seeds_67 : decode cX9_seeds 67 = .ok (.getfield 302, 3) := by decide +kernel
theorem dX9_seeds_70 : decode cX9_seeds 70 = .ok (.ireturn, 1) := by decide +kernel
theorem dX9_back_0 : decode cX9_back 0 = .ok (.aload_n 0, 1) := by decide +kernel
theorem dX9_back_1 : decode cX9_back 1 = .ok (.getfield 29, 3) := by decide +kernel
theorem dX9_back_4 : decode cX9_back 4 = .ok (.getfield 305, 3) := by decide +kernel
theorem dX9_back_7 : decode cX9_back 7 = .ok (.ifCond .ne 10, 3) := by decide +kernel
theorem dX9_back_10 : decode cX9_back 10 = .ok (.aload_n 0, 1) := by decide +kernel
theorem dX9_back_11 : decode cX9_back 11 = .ok (.bipush (-3), 2) := by decide +kernel
theorem dX9_back_13 : decode cX9_back 13 = .ok (.invokevirtual 85, 3) := by decide +kernel
theorem dX9_back_16 : decode cX9_back 16 = .ok (.ireturn, 1) := by decide +kernel
theorem dX9_back_17 : decode cX9_back 17 = .ok (.aload_n 0, 1) := by decide +kernel
theorem dX9_back_18 : decode cX9_back 18 = .ok (.getfield 29, 3) := by decide +kernel
theorem dX9_back_21 : decode cX9_back 21 = .ok (.aload_n 0, 1) := by decide +kernel
theorem dX9_back_22 : decode cX9_back 22 = .ok (.getfield 10, 3) := by decide +kernel
theorem dX9_back_25 : decode cX9_back 25 = .ok (.invokevirtual 306, 3) := by decide +kernel
theorem dX9_back_28 : decode cX9_back 28 = .ok (.aload_n 0, 1) := by decide +kernel
theorem dX9_back_29 : decode cX9_back 29 = .ok (.getfield 10, 3) := by decide +kernel
theorem dX9_back_32 : decode cX9_back 32 = .ok (.getfield 155, 3) := by decide +kernel
theorem dX9_back_35 : decode cX9_back 35 = .ok (.ireturn, 1) := by decide +kernel
theorem dX9_all_0 : decode cX9_all 0 = .ok (.aload_n 0, 1) := by decide +kernel
theorem dX9_all_1 : decode cX9_all 1 = .ok (.getfield 52, 3) := by decide +kernel
theorem dX9_all_4 : decode cX9_all 4 = .ok (.invokevirtual 309, 3) := by decide +kernel
theorem dX9_all_7 : decode cX9_all 7 = .ok (.ireturn, 1) := by decide +kernel
theorem dX9_behind_0 : decode cX9_behind 0 = .ok (.iload_n 1, 1) := by decide +kernel
theorem dX9_behind_1 : decode cX9_behind 1 = .ok (.ifCond .ge 10, 3) := by decide +kernel
theorem dX9_behind_4 : decode cX9_behind 4 = .ok (.aload_n 0, 1) := by decide +kernel
theorem dX9_behind_5 : decode cX9_behind 5 = .ok (.bipush (-4), 2) := by decide +kernel
theorem dX9_behind_7 : decode cX9_behind 7 = .ok (.invokevirtual 85, 3) := by decide +kernel
theorem dX9_behind_10 : decode cX9_behind 10 = .ok (.ireturn, 1) := by decide +kernel
theorem dX9_behind_11 : decode cX9_behind 11 = .ok (.iload_n 1, 1) := by decide +kernel
theorem dX9_behind_12 : decode cX9_behind 12 = .ok (.bipush 60, 2) := by decide +kernel
theorem dX9_behind_14 : decode cX9_behind 14 = .ok (.if_icmp .le 10, 3) := by decide +kernel
theorem dX9_behind_17 : decode cX9_behind 17 = .ok (.aload_n 0, 1) := by decide +kernel
theorem dX9_behind_18 : decode cX9_behind 18 = .ok (.bipush (-6), 2) := by decide +kernel
theorem dX9_behind_20 : decode cX9_behind 20 = .ok (.invokevirtual 85, 3) := by decide +kernel
theorem dX9_behind_23 : decode cX9_behind 23 = .ok (.ireturn, 1) := by decide +kernel
theorem dX9_behind_24 : decode cX9_behind 24 = .ok (.aload_n 0, 1) := by decide +kernel
theorem dX9_behind_25 : decode cX9_behind 25 = .ok (.getfield 52, 3) := by decide +kernel
theorem dX9_behind_28 : decode cX9_behind 28 = .ok (.iload_n 1, 1) := by decide +kernel
theorem dX9_behind_29 : decode cX9_behind 29 = .ok (.invokevirtual 312, 3) := by decide +kernel
theorem dX9_behind_32 : decode cX9_behind 32 = .ok (.ireturn, 1) := by decide +kernel
theorem dX9_atFirst_0 : decode cX9_atFirst 0 = .ok (.iload_n 1, 1) := by decide +kernel
theorem dX9_atFirst_1 : decode cX9_atFirst 1 = .ok (.iconst 1, 1) := by decide +kernel
theorem dX9_atFirst_2 : decode cX9_atFirst 2 = .ok (.invokestatic 115, 3) := by decide +kernel
theorem dX9_atFirst_5 : decode cX9_atFirst 5 = .ok (.ifCond .eq 10, 3) := by decide +kernel
theorem dX9_atFirst_8 : decode cX9_atFirst 8 = .ok (.aload_n 0, 1) := by decide +kernel
theorem dX9_atFirst_9 : decode cX9_atFirst 9 = .ok (.bipush (-2), 2) := by decide +kernel
theorem dX9_atFirst_11 : decode cX9_atFirst 11 = .ok (.invokevirtual 85, 3) := by decide +kernel
theorem dX9_atFirst_14 : decode cX9_atFirst 14 = .ok (.ireturn, 1) := by decide +kernel
theorem dX9_atFirst_15 : decode cX9_atFirst 15 = .ok (.iload_n 1, 1) := by decide +kernel
theorem dX9_atFirst_16 : decode cX9_atFirst 16 = .ok (.aload_n 0, 1) := by decide +kernel
theorem dX9_atFirst_17 : decode cX9_atFirst 17 = .ok (.getfield 52, 3) := by decide +kernel
theorem dX9_atFirst_20 : decode cX9_atFirst 20 = .ok (.invokevirtual 315, 3) := by decide +kernel
theorem dX9_atFirst_23 : decode cX9_atFirst 23 = .ok (.invokestatic 234, 3) := by decide +kernel
theorem dX9_atFirst_26 : decode cX9_atFirst 26 = .ok (.ireturn, 1) := by decide +kernel
theorem dX9_forms_0 : decode cX9_forms 0 = .ok (.iload_n 1, 1) := by decide +kernel
theorem dX9_forms_1 : decode cX9_forms 1 = .ok (.iconst 1, 1) := by decide +kernel
theorem dX9_forms_2 : decode cX9_forms 2 = .ok (.invokestatic 115, 3) := by decide +kernel
theorem dX9_forms_5 : decode cX9_forms 5 = .ok (.ifCond .eq 10, 3) := by decide +kernel
theorem dX9_forms_8 : decode cX9_forms 8 = .ok (.aload_n 0, 1) := by decide +kernel
theorem dX9_forms_9 : decode cX9_forms 9 = .ok (.bipush (-2), 2) := by decide +kernel
theorem dX9_forms_11 : decode cX9_forms 11 = .ok (.invokevirtual 85, 3) := by decide +kernel
theorem dX9_forms_14 : decode cX9_forms 14 = .ok (.ireturn, 1) := by decide +kernel
theorem dX9_forms_15 : decode cX9_forms 15 = .ok (.aload_n 0, 1) := by decide +kernel
theorem dX9_forms_16 : decode cX9_forms 16 = .ok (.getfield 68, 3) := by decide +kernel
theorem dX9_forms_19 : decode cX9_forms 19 = .ok (.invokevirtual 318, 3) := by decide +kernel
theorem dX9_forms_22 : decode cX9_forms 22 = .ok (.iload_n 1, 1) := by decide +kernel
theorem dX9_forms_23 : decode cX9_forms 23 = .ok (.ifCond .ne 13, 3) := by decide +kernel
theorem dX9_forms_26 : decode cX9_forms 26 = .ok (.aload_n 0, 1) := by decide +kernel
theorem dX9_forms_27 : decode cX9_forms 27 = .ok (.getfield 68, 3) := by decide +kernel
theorem dX9_forms_30 : decode cX9_forms 30 = .ok (.getfield 222, 3) := by decide +kernel
theorem dX9_forms_33 : decode cX9_forms 33 = .ok (.goto 10, 3) := by decide +kernel
theorem dX9_forms_36 : decode cX9_forms 36 = .ok (.aload_n 0, 1) := by decide +kernel
theorem dX9_forms_37 : decode cX9_forms 37 = .ok (.getfield 68, 3) := by decide +kernel
theorem dX9_forms_40 : decode cX9_forms 40 = .ok (.getfield 225, 3) := by decide +kernel
theorem dX9_forms_43 : decode cX9_forms 43 = .ok (.ireturn, 1) := by decide +kernel
theorem dX9_calms_0 : decode cX9_calms 0 = .ok (.iload_n 1, 1) := by decide +kernel
theorem dX9_calms_1 : decode cX9_calms 1 = .ok (.iconst 1, 1) := by decide +kernel
theorem dX9_calms_2 : decode cX9_calms 2 = .ok (.invokestatic 115, 3) := by decide +kernel
theorem dX9_calms_5 : decode cX9_calms 5 = .ok (.ifCond .eq 10, 3) := by decide +kernel
theorem dX9_calms_8 : decode cX9_calms 8 = .ok (.aload_n 0, 1) := by decide +kernel
theorem dX9_calms_9 : decode cX9_calms 9 = .ok (.bipush (-2), 2) := by decide +kernel
theorem dX9_calms_11 : decode cX9_calms 11 = .ok (.invokevirtual 85, 3) := by decide +kernel
theorem dX9_calms_14 : decode cX9_calms 14 = .ok (.ireturn, 1) := by decide +kernel
theorem dX9_calms_15 : decode cX9_calms 15 = .ok (.iload_n 1, 1) := by decide +kernel
theorem dX9_calms_16 : decode cX9_calms 16 = .ok (.ifCond .ne 13, 3) := by decide +kernel
theorem dX9_calms_19 : decode cX9_calms 19 = .ok (.aload_n 0, 1) := by decide +kernel
theorem dX9_calms_20 : decode cX9_calms 20 = .ok (.getfield 59, 3) := by decide +kernel
theorem dX9_calms_23 : decode cX9_calms 23 = .ok (.invokevirtual 321, 3) := by decide +kernel
theorem dX9_calms_26 : decode cX9_calms 26 = .ok (.goto 10, 3) := by decide +kernel
theorem dX9_calms_29 : decode cX9_calms 29 = .ok (.aload_n 0, 1) := by decide +kernel
theorem dX9_calms_30 : decode cX9_calms 30 = .ok (.getfield 59, 3) := by decide +kernel
theorem dX9_calms_33 : decode cX9_calms 33 = .ok (.invokevirtual 324, 3) := by decide +kernel
theorem dX9_calms_36 : decode cX9_calms 36 = .ok (.ireturn, 1) := by decide +kernel
theorem dX9_farthest_0 : decode cX9_farthest 0 = .ok (.aload_n 0, 1) := by decide +kernel
theorem dX9_farthest_1 : decode cX9_farthest 1 = .ok (.getfield 68, 3) := by decide +kernel
theorem dX9_farthest_4 : decode cX9_farthest 4 = .ok (.invokevirtual 327, 3) := by decide +kernel
theorem dX9_farthest_7 : decode cX9_farthest 7 = .ok (.ireturn, 1) := by decide +kernel
theorem dX9_turned_0 : decode cX9_turned 0 = .ok (.aload_n 0, 1) := by decide +kernel
theorem dX9_turned_1 : decode cX9_turned 1 = .ok (.getfield 68, 3) := by decide +kernel
theorem dX9_turned_4 : decode cX9_turned 4 = .ok (.invokevirtual 330, 3) := by decide +kernel
theorem dX9_turned_7 : decode cX9_turned 7 = .ok (.ireturn, 1) := by decide +kernel
theorem dX9_flame_0 : decode cX9_flame 0 = .ok (.aload_n 0, 1) := by decide +kernel
theorem dX9_flame_1 : decode cX9_flame 1 = .ok (.getfield 10, 3) := by decide +kernel
theorem dX9_flame_4 : decode cX9_flame 4 = .ok (.iload_n 1, 1) := by decide +kernel
theorem dX9_flame_5 : decode cX9_flame 5 = .ok (.invokevirtual 111, 3) := by decide +kernel
theorem dX9_flame_8 : decode cX9_flame 8 = .ok (.ifCond .eq 14, 3) := by decide +kernel
theorem dX9_flame_11 : decode cX9_flame 11 = .ok (.aload_n 0, 1) := by decide +kernel
theorem dX9_flame_12 : decode cX9_flame 12 = .ok (.getfield 52, 3) := by decide +kernel
theorem dX9_flame_15 : decode cX9_flame 15 = .ok (.iload_n 1, 1) := by decide +kernel
theorem dX9_flame_16 : decode cX9_flame 16 = .ok (.invokevirtual 333, 3) := by decide +kernel
theorem dX9_flame_19 : decode cX9_flame 19 = .ok (.goto 8, 3) := by decide +kernel
theorem dX9_flame_22 : decode cX9_flame 22 = .ok (.aload_n 0, 1) := by decide +kernel
theorem dX9_flame_23 : decode cX9_flame 23 = .ok (.iconst (-1), 1) := by decide +kernel
theorem dX9_flame_24 : decode cX9_flame 24 = .ok (.invokevirtual 85, 3) := by decide +kernel
theorem dX9_flame_27 : decode cX9_flame 27 = .ok (.ireturn, 1) := by decide +kernel
theorem dX9_out_0 : decode cX9_out 0 = .ok (.aload_n 0, 1) := by decide +kernel
theorem dX9_out_1 : decode cX9_out 1 = .ok (.getfield 10, 3) := by decide +kernel
theorem dX9_out_4 : decode cX9_out 4 = .ok (.iload_n 1, 1) := by decide +kernel
theorem dX9_out_5 : decode cX9_out 5 = .ok (.invokevirtual 111, 3) := by decide +kernel
theorem dX9_out_8 : decode cX9_out 8 = .ok (.ifCond .eq 14, 3) := by decide +kernel
theorem dX9_out_11 : decode cX9_out 11 = .ok (.aload_n 0, 1) := by decide +kernel
theorem dX9_out_12 : decode cX9_out 12 = .ok (.getfield 52, 3) := by decide +kernel
theorem dX9_out_15 : decode cX9_out 15 = .ok (.iload_n 1, 1) := by decide +kernel
theorem dX9_out_16 : decode cX9_out 16 = .ok (.invokevirtual 336, 3) := by decide +kernel
theorem dX9_out_19 : decode cX9_out 19 = .ok (.goto 8, 3) := by decide +kernel
theorem dX9_out_22 : decode cX9_out 22 = .ok (.aload_n 0, 1) := by decide +kernel
theorem dX9_out_23 : decode cX9_out 23 = .ok (.iconst (-1), 1) := by decide +kernel
theorem dX9_out_24 : decode cX9_out 24 = .ok (.invokevirtual 85, 3) := by decide +kernel
theorem dX9_out_27 : decode cX9_out 27 = .ok (.ireturn, 1) := by decide +kernel
theorem dX9_again_0 : decode cX9_again 0 = .ok (.aload_n 0, 1) := by decide +kernel
theorem dX9_again_1 : decode cX9_again 1 = .ok (.getfield 52, 3) := by decide +kernel
theorem dX9_again_4 : decode cX9_again 4 = .ok (.invokevirtual 339, 3) := by decide +kernel
theorem dX9_again_7 : decode cX9_again 7 = .ok (.ireturn, 1) := by decide +kernel
theorem dX9_game_0 : decode cX9_game 0 = .ok (.iload_n 1, 1) := by decide +kernel
theorem dX9_game_1 : decode cX9_game 1 = .ok (.iconst 2, 1) := by decide +kernel
theorem dX9_game_2 : decode cX9_game 2 = .ok (.invokestatic 115, 3) := by decide +kernel
theorem dX9_game_5 : decode cX9_game 5 = .ok (.ifCond .eq 10, 3) := by decide +kernel
theorem dX9_game_8 : decode cX9_game 8 = .ok (.aload_n 0, 1) := by decide +kernel
theorem dX9_game_9 : decode cX9_game 9 = .ok (.bipush (-2), 2) := by decide +kernel
theorem dX9_game_11 : decode cX9_game 11 = .ok (.invokevirtual 85, 3) := by decide +kernel
theorem dX9_game_14 : decode cX9_game 14 = .ok (.ireturn, 1) := by decide +kernel
theorem dX9_game_15 : decode cX9_game 15 = .ok (.aload_n 0, 1) := by decide +kernel
theorem dX9_game_16 : decode cX9_game 16 = .ok (.getfield 68, 3) := by decide +kernel
theorem dX9_game_19 : decode cX9_game 19 = .ok (.invokevirtual 342, 3) := by decide +kernel
theorem dX9_game_22 : decode cX9_game 22 = .ok (.iload_n 1, 1) := by decide +kernel
theorem dX9_game_23 : decode cX9_game 23 = .ok (.ifCond .ne 11, 3) := by decide +kernel
theorem dX9_game_26 : decode cX9_game 26 = .ok (.aload_n 0, 1) := by decide +kernel
theorem dX9_game_27 : decode cX9_game 27 = .ok (.getfield 68, 3) := by decide +kernel
theorem dX9_game_30 : decode cX9_game 30 = .ok (.invokevirtual 345, 3) := by decide +kernel
theorem dX9_game_33 : decode cX9_game 33 = .ok (.ireturn, 1) := by decide +kernel
theorem dX9_game_34 : decode cX9_game 34 = .ok (.iload_n 1, 1) := by decide +kernel
theorem dX9_game_35 : decode cX9_game 35 = .ok (.iconst 1, 1) := by decide +kernel
theorem dX9_game_36 : decode cX9_game 36 = .ok (.if_icmp .ne 13, 3) := by decide +kernel
theorem dX9_game_39 : decode cX9_game 39 = .ok (.aload_n 0, 1) := by decide +kernel
theorem dX9_game_40 : decode cX9_game 40 = .ok (.getfield 68, 3) := by decide +kernel
theorem dX9_game_43 : decode cX9_game 43 = .ok (.invokevirtual 348, 3) := by decide +kernel
theorem dX9_game_46 : decode cX9_game 46 = .ok (.goto 10, 3) := by decide +kernel
theorem dX9_game_49 : decode cX9_game 49 = .ok (.aload_n 0, 1) := by decide +kernel
theorem dX9_game_50 : decode cX9_game 50 = .ok (.getfield 68, 3) := by decide +kernel
theorem dX9_game_53 : decode cX9_game 53 = .ok (.invokevirtual 351, 3) := by decide +kernel
theorem dX9_game_56 : decode cX9_game 56 = .ok (.ireturn, 1) := by decide +kernel
theorem dX9_heirs_0 : decode cX9_heirs 0 = .ok (.aload_n 0, 1) := by decide +kernel
theorem dX9_heirs_1 : decode cX9_heirs 1 = .ok (.getfield 10, 3) := by decide +kernel
theorem dX9_heirs_4 : decode cX9_heirs 4 = .ok (.iload_n 1, 1) := by decide +kernel
theorem dX9_heirs_5 : decode cX9_heirs 5 = .ok (.invokevirtual 111, 3) := by decide +kernel
theorem dX9_heirs_8 : decode cX9_heirs 8 = .ok (.ifCond .eq 14, 3) := by decide +kernel
theorem dX9_heirs_11 : decode cX9_heirs 11 = .ok (.aload_n 0, 1) := by decide +kernel
theorem dX9_heirs_12 : decode cX9_heirs 12 = .ok (.getfield 68, 3) := by decide +kernel
theorem dX9_heirs_15 : decode cX9_heirs 15 = .ok (.iload_n 1, 1) := by decide +kernel
theorem dX9_heirs_16 : decode cX9_heirs 16 = .ok (.invokevirtual 354, 3) := by decide +kernel
theorem dX9_heirs_19 : decode cX9_heirs 19 = .ok (.goto 8, 3) := by decide +kernel
theorem dX9_heirs_22 : decode cX9_heirs 22 = .ok (.aload_n 0, 1) := by decide +kernel
theorem dX9_heirs_23 : decode cX9_heirs 23 = .ok (.iconst (-1), 1) := by decide +kernel
theorem dX9_heirs_24 : decode cX9_heirs 24 = .ok (.invokevirtual 85, 3) := by decide +kernel
theorem dX9_heirs_27 : decode cX9_heirs 27 = .ok (.ireturn, 1) := by decide +kernel
theorem dX9_gaps_0 : decode cX9_gaps 0 = .ok (.iload_n 1, 1) := by decide +kernel
theorem dX9_gaps_1 : decode cX9_gaps 1 = .ok (.iconst 1, 1) := by decide +kernel
theorem dX9_gaps_2 : decode cX9_gaps 2 = .ok (.invokestatic 115, 3) := by decide +kernel
theorem dX9_gaps_5 : decode cX9_gaps 5 = .ok (.ifCond .eq 10, 3) := by decide +kernel
theorem dX9_gaps_8 : decode cX9_gaps 8 = .ok (.aload_n 0, 1) := by decide +kernel
theorem dX9_gaps_9 : decode cX9_gaps 9 = .ok (.bipush (-2), 2) := by decide +kernel
theorem dX9_gaps_11 : decode cX9_gaps 11 = .ok (.invokevirtual 85, 3) := by decide +kernel
theorem dX9_gaps_14 : decode cX9_gaps 14 = .ok (.ireturn, 1) := by decide +kernel
theorem dX9_gaps_15 : decode cX9_gaps 15 = .ok (.aload_n 0, 1) := by decide +kernel
theorem dX9_gaps_16 : decode cX9_gaps 16 = .ok (.getfield 52, 3) := by decide +kernel
theorem dX9_gaps_19 : decode cX9_gaps 19 = .ok (.invokevirtual 357, 3) := by decide +kernel
theorem dX9_gaps_22 : decode cX9_gaps 22 = .ok (.iload_n 1, 1) := by decide +kernel
theorem dX9_gaps_23 : decode cX9_gaps 23 = .ok (.ifCond .ne 13, 3) := by decide +kernel
theorem dX9_gaps_26 : decode cX9_gaps 26 = .ok (.aload_n 0, 1) := by decide +kernel
theorem dX9_gaps_27 : decode cX9_gaps 27 = .ok (.getfield 52, 3) := by decide +kernel
theorem dX9_gaps_30 : decode cX9_gaps 30 = .ok (.getfield 360, 3) := by decide +kernel
theorem dX9_gaps_33 : decode cX9_gaps 33 = .ok (.goto 10, 3) := by decide +kernel
theorem dX9_gaps_36 : decode cX9_gaps 36 = .ok (.aload_n 0, 1) := by decide +kernel
theorem dX9_gaps_37 : decode cX9_gaps 37 = .ok (.getfield 52, 3) := by decide +kernel
theorem dX9_gaps_40 : decode cX9_gaps 40 = .ok (.getfield 363, 3) := by decide +kernel
theorem dX9_gaps_43 : decode cX9_gaps 43 = .ok (.ireturn, 1) := by decide +kernel
theorem dX9_matches_0 : decode cX9_matches 0 = .ok (.iload_n 1, 1) := by decide +kernel
theorem dX9_matches_1 : decode cX9_matches 1 = .ok (.iconst (-1), 1) := by decide +kernel
theorem dX9_matches_2 : decode cX9_matches 2 = .ok (.if_icmp .ge 10, 3) := by decide +kernel
theorem dX9_matches_5 : decode cX9_matches 5 = .ok (.aload_n 0, 1) := by decide +kernel
theorem dX9_matches_6 : decode cX9_matches 6 = .ok (.bipush (-4), 2) := by decide +kernel
theorem dX9_matches_8 : decode cX9_matches 8 = .ok (.invokevirtual 85, 3) := by decide +kernel
theorem dX9_matches_11 : decode cX9_matches 11 = .ok (.ireturn, 1) := by decide +kernel
theorem dX9_matches_12 : decode cX9_matches 12 = .ok (.aload_n 0, 1) := by decide +kernel
theorem dX9_matches_13 : decode cX9_matches 13 = .ok (.getfield 59, 3) := by decide +kernel
theorem dX9_matches_16 : decode cX9_matches 16 = .ok (.invokevirtual 366, 3) := by decide +kernel
theorem dX9_matches_19 : decode cX9_matches 19 = .ok (.istore_n 2, 1) := by decide +kernel
theorem dX9_matches_20 : decode cX9_matches 20 = .ok (.iload_n 1, 1) := by decide +kernel
theorem dX9_matches_21 : decode cX9_matches 21 = .ok (.iconst (-1), 1) := by decide +kernel
theorem dX9_matches_22 : decode cX9_matches 22 = .ok (.if_icmp .ne 5, 3) := by decide +kernel
theorem dX9_matches_25 : decode cX9_matches 25 = .ok (.iload_n 2, 1) := by decide +kernel
theorem dX9_matches_26 : decode cX9_matches 26 = .ok (.ireturn, 1) := by decide +kernel
theorem dX9_matches_27 : decode cX9_matches 27 = .ok (.iload_n 1, 1) := by decide +kernel
theorem dX9_matches_28 : decode cX9_matches 28 = .ok (.iload_n 2, 1) := by decide +kernel
theorem dX9_matches_29 : decode cX9_matches 29 = .ok (.if_icmp .ge 20, 3) := by decide +kernel
theorem dX9_matches_32 : decode cX9_matches 32 = .ok (.iload_n 1, 1) := by decide +kernel
theorem dX9_matches_33 : decode cX9_matches 33 = .ok (.iconst 3, 1) := by decide +kernel
theorem dX9_matches_34 : decode cX9_matches 34 = .ok (.if_icmp .ge 15, 3) := by decide +kernel
theorem dX9_matches_37 : decode cX9_matches 37 = .ok (.aload_n 0, 1) := by decide +kernel
theorem dX9_matches_38 : decode cX9_matches 38 = .ok (.getfield 59, 3) := by decide +kernel
theorem dX9_matches_41 : decode cX9_matches 41 = .ok (.getfield 369, 3) := by decide +kernel
theorem dX9_matches_44 : decode cX9_matches 44 = .ok (.iload_n 1, 1) := by decide +kernel
theorem dX9_matches_45 : decode cX9_matches 45 = .ok (.iaload, 1) := by decide +kernel
theorem dX9_matches_46 : decode cX9_matches 46 = .ok (.goto 5, 3) := by decide +kernel
theorem dX9_matches_49 : decode cX9_matches 49 = .ok (.bipush (-9), 2) := by decide +kernel
theorem dX9_matches_51 : decode cX9_matches 51 = .ok (.ireturn, 1) := by decide +kernel
theorem dX9_image_0 : decode cX9_image 0 = .ok (.aload_n 0, 1) := by decide +kernel
theorem dX9_image_1 : decode cX9_image 1 = .ok (.getfield 16, 3) := by decide +kernel
theorem dX9_image_4 : decode cX9_image 4 = .ok (.aload_n 0, 1) := by decide +kernel
theorem dX9_image_5 : decode cX9_image 5 = .ok (.getfield 10, 3) := by decide +kernel
theorem dX9_image_8 : decode cX9_image 8 = .ok (.invokevirtual 372, 3) := by decide +kernel
theorem dX9_image_11 : decode cX9_image 11 = .ok (.aload_n 0, 1) := by decide +kernel
theorem dX9_image_12 : decode cX9_image 12 = .ok (.iconst 1, 1) := by decide +kernel
theorem dX9_image_13 : decode cX9_image 13 = .ok (.putfield 375, 3) := by decide +kernel
theorem dX9_image_16 : decode cX9_image 16 = .ok (.aload_n 0, 1) := by decide +kernel
theorem dX9_image_17 : decode cX9_image 17 = .ok (.getfield 10, 3) := by decide +kernel
theorem dX9_image_20 : decode cX9_image 20 = .ok (.getfield 155, 3) := by decide +kernel
theorem dX9_image_23 : decode cX9_image 23 = .ok (.ireturn, 1) := by decide +kernel
theorem dX9_restore_0 : decode cX9_restore 0 = .ok (.aload_n 0, 1) := by decide +kernel
theorem dX9_restore_1 : decode cX9_restore 1 = .ok (.getfield 375, 3) := by decide +kernel
theorem dX9_restore_4 : decode cX9_restore 4 = .ok (.ifCond .ne 10, 3) := by decide +kernel
theorem dX9_restore_7 : decode cX9_restore 7 = .ok (.aload_n 0, 1) := by decide +kernel
theorem dX9_restore_8 : decode cX9_restore 8 = .ok (.bipush (-3), 2) := by decide +kernel
theorem dX9_restore_10 : decode cX9_restore 10 = .ok (.invokevirtual 85, 3) := by decide +kernel
theorem dX9_restore_13 : decode cX9_restore 13 = .ok (.ireturn, 1) := by decide +kernel
theorem dX9_restore_14 : decode cX9_restore 14 = .ok (.aload_n 0, 1) := by decide +kernel
theorem dX9_restore_15 : decode cX9_restore 15 = .ok (.getfield 10, 3) := by decide +kernel
theorem dX9_restore_18 : decode cX9_restore 18 = .ok (.aload_n 0, 1) := by decide +kernel
theorem dX9_restore_19 : decode cX9_restore 19 = .ok (.getfield 16, 3) := by decide +kernel
theorem dX9_restore_22 : decode cX9_restore 22 = .ok (.invokevirtual 372, 3) := by decide +kernel
theorem dX9_restore_25 : decode cX9_restore 25 = .ok (.aload_n 0, 1) := by decide +kernel
theorem dX9_restore_26 : decode cX9_restore 26 = .ok (.getfield 29, 3) := by decide +kernel
theorem dX9_restore_29 : decode cX9_restore 29 = .ok (.invokevirtual 104, 3) := by decide +kernel
theorem dX9_restore_32 : decode cX9_restore 32 = .ok (.aload_n 0, 1) := by decide +kernel
theorem dX9_restore_33 : decode cX9_restore 33 = .ok (.getfield 10, 3) := by decide +kernel
theorem dX9_restore_36 : decode cX9_restore 36 = .ok (.getfield 155, 3) := by decide +kernel
theorem dX9_restore_39 : decode cX9_restore 39 = .ok (.ireturn, 1) := by decide +kernel
theorem dX9_count_0 : decode cX9_count 0 = .ok (.iload_n 1, 1) := by decide +kernel
theorem dX9_count_1 : decode cX9_count 1 = .ok (.bipush 11, 2) := by decide +kernel
theorem dX9_count_3 : decode cX9_count 3 = .ok (.if_icmp .lt 19, 3) := by decide +kernel
theorem dX9_count_6 : decode cX9_count 6 = .ok (.iload_n 1, 1) := by decide +kernel
theorem dX9_count_7 : decode cX9_count 7 = .ok (.bipush 16, 2) := by decide +kernel
theorem dX9_count_9 : decode cX9_count 9 = .ok (.if_icmp .gt 13, 3) := by decide +kernel
theorem dX9_count_12 : decode cX9_count 12 = .ok (.aload_n 0, 1) := by decide +kernel
theorem dX9_count_13 : decode cX9_count 13 = .ok (.getfield 81, 3) := by decide +kernel
theorem dX9_count_16 : decode cX9_count 16 = .ok (.iload_n 1, 1) := by decide +kernel
theorem dX9_count_17 : decode cX9_count 17 = .ok (.bipush 10, 2) := by decide +kernel
theorem dX9_count_19 : decode cX9_count 19 = .ok (.isub, 1) := by decide +kernel
theorem dX9_count_20 : decode cX9_count 20 = .ok (.iaload, 1) := by decide +kernel
theorem dX9_count_21 : decode cX9_count 21 = .ok (.ireturn, 1) := by decide +kernel
theorem dX9_count_22 : decode cX9_count 22 = .ok (.iload_n 1, 1) := by decide +kernel
theorem dX9_count_23 : decode cX9_count 23 = .ok (.tableswitch 155 0 10 #[57, 65, 76, 84, 92, 100, 108, 116, 124, 132, 147], 57) := by decide +kernel
theorem dX9_count_80 : decode cX9_count 80 = .ok (.aload_n 0, 1) := by decide +kernel
theorem dX9_count_81 : decode cX9_count 81 = .ok (.getfield 10, 3) := by decide +kernel
theorem dX9_count_84 : decode cX9_count 84 = .ok (.getfield 216, 3) := by decide +kernel
theorem dX9_count_87 : decode cX9_count 87 = .ok (.ireturn, 1) := by decide +kernel
theorem dX9_count_88 : decode cX9_count 88 = .ok (.aload_n 0, 1) := by decide +kernel
theorem dX9_count_89 : decode cX9_count 89 = .ok (.getfield 10, 3) := by decide +kernel
theorem dX9_count_92 : decode cX9_count 92 = .ok (.getfield 181, 3) := by decide +kernel
theorem dX9_count_95 : decode cX9_count 95 = .ok (.invokestatic 184, 3) := by decide +kernel
theorem dX9_count_98 : decode cX9_count 98 = .ok (.ireturn, 1) := by decide +kernel
theorem dX9_count_99 : decode cX9_count 99 = .ok (.aload_n 0, 1) := by decide +kernel
theorem dX9_count_100 : decode cX9_count 100 = .ok (.getfield 10, 3) := by decide +kernel
theorem dX9_count_103 : decode cX9_count 103 = .ok (.getfield 155, 3) := by decide +kernel
theorem dX9_count_106 : decode cX9_count 106 = .ok (.ireturn, 1) := by decide +kernel
theorem dX9_count_107 : decode cX9_count 107 = .ok (.aload_n 0, 1) := by decide +kernel
theorem dX9_count_108 : decode cX9_count 108 = .ok (.getfield 10, 3) := by decide +kernel
theorem dX9_count_111 : decode cX9_count 111 = .ok (.getfield 170, 3) := by decide +kernel
theorem dX9_count_114 : decode cX9_count 114 = .ok (.ireturn, 1) := by decide +kernel
theorem dX9_count_115 : decode cX9_count 115 = .ok (.aload_n 0, 1) := by decide +kernel
theorem dX9_count_116 : decode cX9_count 116 = .ok (.getfield 10, 3) := by decide +kernel
theorem dX9_count_119 : decode cX9_count 119 = .ok (.getfield 379, 3) := by decide +kernel
theorem dX9_count_122 : decode cX9_count 122 = .ok (.ireturn, 1) := by decide +kernel
theorem dX9_count_123 : decode cX9_count 123 = .ok (.aload_n 0, 1) := by decide +kernel
theorem dX9_count_124 : decode cX9_count 124 = .ok (.getfield 10, 3) := by decide +kernel
theorem dX9_count_127 : decode cX9_count 127 = .ok (.getfield 382, 3) := by decide +kernel
theorem dX9_count_130 : decode cX9_count 130 = .ok (.ireturn, 1) := by decide +kernel
theorem dX9_count_131 : decode cX9_count 131 = .ok (.aload_n 0, 1) := by decide +kernel
theorem dX9_count_132 : decode cX9_count 132 = .ok (.getfield 10, 3) := by decide +kernel
theorem dX9_count_135 : decode cX9_count 135 = .ok (.getfield 265, 3) := by decide +kernel
theorem dX9_count_138 : decode cX9_count 138 = .ok (.ireturn, 1) := by decide +kernel
theorem dX9_count_139 : decode cX9_count 139 = .ok (.aload_n 0, 1) := by decide +kernel
theorem dX9_count_140 : decode cX9_count 140 = .ok (.getfield 38, 3) := by decide +kernel
theorem dX9_count_143 : decode cX9_count 143 = .ok (.getfield 107, 3) := by decide +kernel
theorem dX9_count_146 : decode cX9_count 146 = .ok (.ireturn, 1) := by decide +kernel
theorem dX9_count_147 : decode cX9_count 147 = .ok (.aload_n 0, 1) := by decide +kernel
theorem dX9_count_148 : decode cX9_count 148 = .ok (.getfield 45, 3) := by decide +kernel
theorem dX9_count_151 : decode cX9_count 151 = .ok (.getfield 276, 3) := by decide +kernel
theorem dX9_count_154 : decode cX9_count 154 = .ok (.ireturn, 1) := by decide +kernel
theorem dX9_count_155 : decode cX9_count 155 = .ok (.aload_n 0, 1) := by decide +kernel
theorem dX9_count_156 : decode cX9_count 156 = .ok (.getfield 10, 3) := by decide +kernel
theorem dX9_count_159 : decode cX9_count 159 = .ok (.aload_n 0, 1) := by decide +kernel
theorem dX9_count_160 : decode cX9_count 160 = .ok (.getfield 10, 3) := by decide +kernel
theorem dX9_count_163 : decode cX9_count 163 = .ok (.getfield 181, 3) := by decide +kernel
theorem dX9_count_166 : decode cX9_count 166 = .ok (.invokevirtual 192, 3) := by decide +kernel
theorem dX9_count_169 : decode cX9_count 169 = .ok (.ireturn, 1) := by decide +kernel
theorem dX9_count_170 : decode cX9_count 170 = .ok (.aload_n 0, 1) := by decide +kernel
theorem dX9_count_171 : decode cX9_count 171 = .ok (.getfield 29, 3) := by decide +kernel
theorem dX9_count_174 : decode cX9_count 174 = .ok (.getfield 305, 3) := by decide +kernel
theorem dX9_count_177 : decode cX9_count 177 = .ok (.ireturn, 1) := by decide +kernel
theorem dX9_count_178 : decode cX9_count 178 = .ok (.bipush (-9), 2) := by decide +kernel
theorem dX9_count_180 : decode cX9_count 180 = .ok (.ireturn, 1) := by decide +kernel
theorem dX9_refuse_0 : decode cX9_refuse 0 = .ok (.iload_n 1, 1) := by decide +kernel
theorem dX9_refuse_1 : decode cX9_refuse 1 = .ok (.ineg, 1) := by decide +kernel
theorem dX9_refuse_2 : decode cX9_refuse 2 = .ok (.istore_n 2, 1) := by decide +kernel
theorem dX9_refuse_3 : decode cX9_refuse 3 = .ok (.iload_n 2, 1) := by decide +kernel
theorem dX9_refuse_4 : decode cX9_refuse 4 = .ok (.ifCond .le 22, 3) := by decide +kernel
theorem dX9_refuse_7 : decode cX9_refuse 7 = .ok (.iload_n 2, 1) := by decide +kernel
theorem dX9_refuse_8 : decode cX9_refuse 8 = .ok (.aload_n 0, 1) := by decide +kernel
theorem dX9_refuse_9 : decode cX9_refuse 9 = .ok (.getfield 81, 3) := by decide +kernel
theorem dX9_refuse_12 : decode cX9_refuse 12 = .ok (.arraylength, 1) := by decide +kernel
theorem dX9_refuse_13 : decode cX9_refuse 13 = .ok (.if_icmp .ge 13, 3) := by decide +kernel
theorem dX9_refuse_16 : decode cX9_refuse 16 = .ok (.aload_n 0, 1) := by decide +kernel
theorem dX9_refuse_17 : decode cX9_refuse 17 = .ok (.getfield 81, 3) := by decide +kernel
theorem dX9_refuse_20 : decode cX9_refuse 20 = .ok (.iload_n 2, 1) := by decide +kernel
theorem dX9_refuse_21 : decode cX9_refuse 21 = .ok (.dup2, 1) := by decide +kernel
theorem dX9_refuse_22 : decode cX9_refuse 22 = .ok (.iaload, 1) := by decide +kernel
theorem dX9_refuse_23 : decode cX9_refuse 23 = .ok (.iconst 1, 1) := by decide +kernel
theorem dX9_refuse_24 : decode cX9_refuse 24 = .ok (.iadd, 1) := by decide +kernel
theorem dX9_refuse_25 : decode cX9_refuse 25 = .ok (.iastore, 1) := by decide +kernel
theorem dX9_refuse_26 : decode cX9_refuse 26 = .ok (.iload_n 1, 1) := by decide +kernel
theorem dX9_refuse_27 : decode cX9_refuse 27 = .ok (.ireturn, 1) := by decide +kernel
theorem dX9_refuseLong_0 : decode cX9_refuseLong 0 = .ok (.ldc2_w 385, 3) := by decide +kernel
theorem dX9_refuseLong_3 : decode cX9_refuseLong 3 = .ok (.aload_n 0, 1) := by decide +kernel
theorem dX9_refuseLong_4 : decode cX9_refuseLong 4 = .ok (.iload_n 1, 1) := by decide +kernel
theorem dX9_refuseLong_5 : decode cX9_refuseLong 5 = .ok (.invokevirtual 85, 3) := by decide +kernel
theorem dX9_refuseLong_8 : decode cX9_refuseLong 8 = .ok (.i2l, 1) := by decide +kernel
theorem dX9_refuseLong_9 : decode cX9_refuseLong 9 = .ok (.lsub, 1) := by decide +kernel
theorem dX9_refuseLong_10 : decode cX9_refuseLong 10 = .ok (.lreturn, 1) := by decide +kernel
theorem dX9_change_0 : decode cX9_change 0 = .ok (.iload_n 1, 1) := by decide +kernel
theorem dX9_change_1 : decode cX9_change 1 = .ok (.ifCond .ne 22, 3) := by decide +kernel
theorem dX9_change_4 : decode cX9_change 4 = .ok (.aload_n 0, 1) := by decide +kernel
theorem dX9_change_5 : decode cX9_change 5 = .ok (.getfield 10, 3) := by decide +kernel
theorem dX9_change_8 : decode cX9_change 8 = .ok (.getfield 379, 3) := by decide +kernel
theorem dX9_change_11 : decode cX9_change 11 = .ok (.istore_n 3, 1) := by decide +kernel
theorem dX9_change_12 : decode cX9_change 12 = .ok (.aload_n 0, 1) := by decide +kernel
theorem dX9_change_13 : decode cX9_change 13 = .ok (.getfield 10, 3) := by decide +kernel
theorem dX9_change_16 : decode cX9_change 16 = .ok (.iload_n 2, 1) := by decide +kernel
theorem dX9_change_17 : decode cX9_change 17 = .ok (.putfield 379, 3) := by decide +kernel
theorem dX9_change_20 : decode cX9_change 20 = .ok (.goto 43, 3) := by decide +kernel
theorem dX9_change_23 : decode cX9_change 23 = .ok (.iload_n 1, 1) := by decide +kernel
theorem dX9_change_24 : decode cX9_change 24 = .ok (.iconst 1, 1) := by decide +kernel
theorem dX9_change_25 : decode cX9_change 25 = .ok (.if_icmp .ne 22, 3) := by decide +kernel
theorem dX9_change_28 : decode cX9_change 28 = .ok (.aload_n 0, 1) := by decide +kernel
theorem dX9_change_29 : decode cX9_change 29 = .ok (.getfield 10, 3) := by decide +kernel
theorem dX9_change_32 : decode cX9_change 32 = .ok (.getfield 382, 3) := by decide +kernel
theorem dX9_change_35 : decode cX9_change 35 = .ok (.istore_n 3, 1) := by decide +kernel
theorem dX9_change_36 : decode cX9_change 36 = .ok (.aload_n 0, 1) := by decide +kernel
theorem dX9_change_37 : decode cX9_change 37 = .ok (.getfield 10, 3) := by decide +kernel
theorem dX9_change_40 : decode cX9_change 40 = .ok (.iload_n 2, 1) := by decide +kernel
theorem dX9_change_41 : decode cX9_change 41 = .ok (.putfield 382, 3) := by decide +kernel
theorem dX9_change_44 : decode cX9_change 44 = .ok (.goto 19, 3) := by decide +kernel
theorem dX9_change_47 : decode cX9_change 47 = .ok (.aload_n 0, 1) := by decide +kernel
theorem dX9_change_48 : decode cX9_change 48 = .ok (.getfield 10, 3) := by decide +kernel
theorem dX9_change_51 : decode cX9_change 51 = .ok (.getfield 265, 3) := by decide +kernel
theorem dX9_change_54 : decode cX9_change 54 = .ok (.istore_n 3, 1) := by decide +kernel
theorem dX9_change_55 : decode cX9_change 55 = .ok (.aload_n 0, 1) := by decide +kernel
theorem dX9_change_56 : decode cX9_change 56 = .ok (.getfield 10, 3) := by decide +kernel
theorem dX9_change_59 : decode cX9_change 59 = .ok (.iload_n 2, 1) := by decide +kernel
theorem dX9_change_60 : decode cX9_change 60 = .ok (.putfield 265, 3) := by decide +kernel
theorem dX9_change_63 : decode cX9_change 63 = .ok (.iload_n 3, 1) := by decide +kernel
theorem dX9_change_64 : decode cX9_change 64 = .ok (.ireturn, 1) := by decide +kernel
theorem dX9_leastOf_0 : decode cX9_leastOf 0 = .ok (.iload_n 0, 1) := by decide +kernel
theorem dX9_leastOf_1 : decode cX9_leastOf 1 = .ok (.ifCond .ne 7, 3) := by decide +kernel
theorem dX9_leastOf_4 : decode cX9_leastOf 4 = .ok (.iconst 0, 1) := by decide +kernel
theorem dX9_leastOf_5 : decode cX9_leastOf 5 = .ok (.goto 4, 3) := by decide +kernel
theorem dX9_leastOf_8 : decode cX9_leastOf 8 = .ok (.iconst 1, 1) := by decide +kernel
theorem dX9_leastOf_9 : decode cX9_leastOf 9 = .ok (.ireturn, 1) := by decide +kernel
theorem dX9_mostOf_0 : decode cX9_mostOf 0 = .ok (.iload_n 0, 1) := by decide +kernel
theorem dX9_mostOf_1 : decode cX9_mostOf 1 = .ok (.ifCond .ne 5, 3) := by decide +kernel
theorem dX9_mostOf_4 : decode cX9_mostOf 4 = .ok (.iconst 2, 1) := by decide +kernel
theorem dX9_mostOf_5 : decode cX9_mostOf 5 = .ok (.ireturn, 1) := by decide +kernel
theorem dX9_mostOf_6 : decode cX9_mostOf 6 = .ok (.iload_n 0, 1) := by decide +kernel
theorem dX9_mostOf_7 : decode cX9_mostOf 7 = .ok (.iconst 1, 1) := by decide +kernel
theorem dX9_mostOf_8 : decode cX9_mostOf 8 = .ok (.if_icmp .ne 7, 3) := by decide +kernel
theorem dX9_mostOf_11 : decode cX9_mostOf 11 = .ok (.iconst 2, 1) := by decide +kernel
theorem dX9_mostOf_12 : decode cX9_mostOf 12 = .ok (.goto 5, 3) := by decide +kernel
theorem dX9_mostOf_15 : decode cX9_mostOf 15 = .ok (.bipush 24, 2) := by decide +kernel
theorem dX9_mostOf_17 : decode cX9_mostOf 17 = .ok (.ireturn, 1) := by decide +kernel
theorem dX9_isOutside_0 : decode cX9_isOutside 0 = .ok (.iload_n 0, 1) := by decide +kernel
theorem dX9_isOutside_1 : decode cX9_isOutside 1 = .ok (.ifCond .lt 8, 3) := by decide +kernel
theorem dX9_isOutside_4 : decode cX9_isOutside 4 = .ok (.iload_n 0, 1) := by decide +kernel
theorem dX9_isOutside_5 : decode cX9_isOutside 5 = .ok (.iload_n 1, 1) := by decide +kernel
theorem dX9_isOutside_6 : decode cX9_isOutside 6 = .ok (.if_icmp .le 7, 3) := by decide +kernel
theorem dX9_isOutside_9 : decode cX9_isOutside 9 = .ok (.iconst 1, 1) := by decide +kernel
theorem dX9_isOutside_10 : decode cX9_isOutside 10 = .ok (.goto 4, 3) := by decide +kernel
theorem dX9_isOutside_13 : decode cX9_isOutside 13 = .ok (.iconst 0, 1) := by decide +kernel
theorem dX9_isOutside_14 : decode cX9_isOutside 14 = .ok (.ireturn, 1) := by decide +kernel
theorem dX9_numberOrSet_0 : decode cX9_numberOrSet 0 = .ok (.iload_n 1, 1) := by decide +kernel
theorem dX9_numberOrSet_1 : decode cX9_numberOrSet 1 = .ok (.ifCond .ge 6, 3) := by decide +kernel
theorem dX9_numberOrSet_4 : decode cX9_numberOrSet 4 = .ok (.bipush (-9), 2) := by decide +kernel
theorem dX9_numberOrSet_6 : decode cX9_numberOrSet 6 = .ok (.ireturn, 1) := by decide +kernel
theorem dX9_numberOrSet_7 : decode cX9_numberOrSet 7 = .ok (.iload_n 0, 1) := by decide +kernel
theorem dX9_numberOrSet_8 : decode cX9_numberOrSet 8 = .ok (.ifCond .ne 10, 3) := by decide +kernel
theorem dX9_numberOrSet_11 : decode cX9_numberOrSet 11 = .ok (.iload_n 1, 1) := by decide +kernel
theorem dX9_numberOrSet_12 : decode cX9_numberOrSet 12 = .ok (.invokestatic 184, 3) := by decide +kernel
theorem dX9_numberOrSet_15 : decode cX9_numberOrSet 15 = .ok (.goto 4, 3) := by decide +kernel
theorem dX9_numberOrSet_18 : decode cX9_numberOrSet 18 = .ok (.iload_n 1, 1) := by decide +kernel
theorem dX9_numberOrSet_19 : decode cX9_numberOrSet 19 = .ok (.ireturn, 1) := by decide +kernel
theorem dX9_hasBit_0 : decode cX9_hasBit 0 = .ok (.iload_n 0, 1) := by decide +kernel
theorem dX9_hasBit_1 : decode cX9_hasBit 1 = .ok (.iload_n 1, 1) := by decide +kernel
theorem dX9_hasBit_2 : decode cX9_hasBit 2 = .ok (.ishr, 1) := by decide +kernel
theorem dX9_hasBit_3 : decode cX9_hasBit 3 = .ok (.iconst 1, 1) := by decide +kernel
theorem dX9_hasBit_4 : decode cX9_hasBit 4 = .ok (.iand, 1) := by decide +kernel
theorem dX9_hasBit_5 : decode cX9_hasBit 5 = .ok (.ifCond .eq 7, 3) := by decide +kernel
theorem dX9_hasBit_8 : decode cX9_hasBit 8 = .ok (.iconst 1, 1) := by decide +kernel
theorem dX9_hasBit_9 : decode cX9_hasBit 9 = .ok (.goto 4, 3) := by decide +kernel
theorem dX9_hasBit_12 : decode cX9_hasBit 12 = .ok (.iconst 0, 1) := by decide +kernel
theorem dX9_hasBit_13 : decode cX9_hasBit 13 = .ok (.ireturn, 1) := by decide +kernel
theorem dJ6_bitCount_0f7a4_0 : decode cJ6_bitCount_0f7a4 0 = .ok (.iload_n 0, 1) := by decide +kernel
theorem dJ6_bitCount_0f7a4_1 : decode cJ6_bitCount_0f7a4 1 = .ok (.iload_n 0, 1) := by decide +kernel
theorem dJ6_bitCount_0f7a4_2 : decode cJ6_bitCount_0f7a4 2 = .ok (.iconst 1, 1) := by decide +kernel
theorem dJ6_bitCount_0f7a4_3 : decode cJ6_bitCount_0f7a4 3 = .ok (.iushr, 1) := by decide +kernel
theorem dJ6_bitCount_0f7a4_4 : decode cJ6_bitCount_0f7a4 4 = .ok (.ldc_w 265, 3) := by decide +kernel
theorem dJ6_bitCount_0f7a4_7 : decode cJ6_bitCount_0f7a4 7 = .ok (.iand, 1) := by decide +kernel
theorem dJ6_bitCount_0f7a4_8 : decode cJ6_bitCount_0f7a4 8 = .ok (.isub, 1) := by decide +kernel
theorem dJ6_bitCount_0f7a4_9 : decode cJ6_bitCount_0f7a4 9 = .ok (.istore_n 0, 1) := by decide +kernel
theorem dJ6_bitCount_0f7a4_10 : decode cJ6_bitCount_0f7a4 10 = .ok (.iload_n 0, 1) := by decide +kernel
theorem dJ6_bitCount_0f7a4_11 : decode cJ6_bitCount_0f7a4 11 = .ok (.ldc_w 266, 3) := by decide +kernel
theorem dJ6_bitCount_0f7a4_14 : decode cJ6_bitCount_0f7a4 14 = .ok (.iand, 1) := by decide +kernel
theorem dJ6_bitCount_0f7a4_15 : decode cJ6_bitCount_0f7a4 15 = .ok (.iload_n 0, 1) := by decide +kernel
theorem dJ6_bitCount_0f7a4_16 : decode cJ6_bitCount_0f7a4 16 = .ok (.iconst 2, 1) := by decide +kernel
theorem dJ6_bitCount_0f7a4_17 : decode cJ6_bitCount_0f7a4 17 = .ok (.iushr, 1) := by decide +kernel
theorem dJ6_bitCount_0f7a4_18 : decode cJ6_bitCount_0f7a4 18 = .ok (.ldc_w 266, 3) := by decide +kernel
theorem dJ6_bitCount_0f7a4_21 : decode cJ6_bitCount_0f7a4 21 = .ok (.iand, 1) := by decide +kernel
theorem dJ6_bitCount_0f7a4_22 : decode cJ6_bitCount_0f7a4 22 = .ok (.iadd, 1) := by decide +kernel
theorem dJ6_bitCount_0f7a4_23 : decode cJ6_bitCount_0f7a4 23 = .ok (.istore_n 0, 1) := by decide +kernel
theorem dJ6_bitCount_0f7a4_24 : decode cJ6_bitCount_0f7a4 24 = .ok (.iload_n 0, 1) := by decide +kernel
theorem dJ6_bitCount_0f7a4_25 : decode cJ6_bitCount_0f7a4 25 = .ok (.iload_n 0, 1) := by decide +kernel
theorem dJ6_bitCount_0f7a4_26 : decode cJ6_bitCount_0f7a4 26 = .ok (.iconst 4, 1) := by decide +kernel
theorem dJ6_bitCount_0f7a4_27 : decode cJ6_bitCount_0f7a4 27 = .ok (.iushr, 1) := by decide +kernel
theorem dJ6_bitCount_0f7a4_28 : decode cJ6_bitCount_0f7a4 28 = .ok (.iadd, 1) := by decide +kernel
theorem dJ6_bitCount_0f7a4_29 : decode cJ6_bitCount_0f7a4 29 = .ok (.ldc_w 267, 3) := by decide +kernel
theorem dJ6_bitCount_0f7a4_32 : decode cJ6_bitCount_0f7a4 32 = .ok (.iand, 1) := by decide +kernel
theorem dJ6_bitCount_0f7a4_33 : decode cJ6_bitCount_0f7a4 33 = .ok (.istore_n 0, 1) := by decide +kernel
theorem dJ6_bitCount_0f7a4_34 : decode cJ6_bitCount_0f7a4 34 = .ok (.iload_n 0, 1) := by decide +kernel
theorem dJ6_bitCount_0f7a4_35 : decode cJ6_bitCount_0f7a4 35 = .ok (.iload_n 0, 1) := by decide +kernel
theorem dJ6_bitCount_0f7a4_36 : decode cJ6_bitCount_0f7a4 36 = .ok (.bipush 8, 2) := by decide +kernel
theorem dJ6_bitCount_0f7a4_38 : decode cJ6_bitCount_0f7a4 38 = .ok (.iushr, 1) := by decide +kernel
theorem dJ6_bitCount_0f7a4_39 : decode cJ6_bitCount_0f7a4 39 = .ok (.iadd, 1) := by decide +kernel
theorem dJ6_bitCount_0f7a4_40 : decode cJ6_bitCount_0f7a4 40 = .ok (.istore_n 0, 1) := by decide +kernel
theorem dJ6_bitCount_0f7a4_41 : decode cJ6_bitCount_0f7a4 41 = .ok (.iload_n 0, 1) := by decide +kernel
theorem dJ6_bitCount_0f7a4_42 : decode cJ6_bitCount_0f7a4 42 = .ok (.iload_n 0, 1) := by decide +kernel
theorem dJ6_bitCount_0f7a4_43 : decode cJ6_bitCount_0f7a4 43 = .ok (.bipush 16, 2) := by decide +kernel
theorem dJ6_bitCount_0f7a4_45 : decode cJ6_bitCount_0f7a4 45 = .ok (.iushr, 1) := by decide +kernel
theorem dJ6_bitCount_0f7a4_46 : decode cJ6_bitCount_0f7a4 46 = .ok (.iadd, 1) := by decide +kernel
theorem dJ6_bitCount_0f7a4_47 : decode cJ6_bitCount_0f7a4 47 = .ok (.istore_n 0, 1) := by decide +kernel
theorem dJ6_bitCount_0f7a4_48 : decode cJ6_bitCount_0f7a4 48 = .ok (.iload_n 0, 1) := by decide +kernel
theorem dJ6_bitCount_0f7a4_49 : decode cJ6_bitCount_0f7a4 49 = .ok (.bipush 63, 2) := by decide +kernel
theorem dJ6_bitCount_0f7a4_51 : decode cJ6_bitCount_0f7a4 51 = .ok (.iand, 1) := by decide +kernel
theorem dJ6_bitCount_0f7a4_52 : decode cJ6_bitCount_0f7a4 52 = .ok (.ireturn, 1) := by decide +kernel
theorem dJ9_max_7cf53_0 : decode cJ9_max_7cf53 0 = .ok (.iload_n 0, 1) := by decide +kernel
theorem dJ9_max_7cf53_1 : decode cJ9_max_7cf53 1 = .ok (.iload_n 1, 1) := by decide +kernel
theorem dJ9_max_7cf53_2 : decode cJ9_max_7cf53 2 = .ok (.if_icmp .lt 7, 3) := by decide +kernel
theorem dJ9_max_7cf53_5 : decode cJ9_max_7cf53 5 = .ok (.iload_n 0, 1) := by decide +kernel
theorem dJ9_max_7cf53_6 : decode cJ9_max_7cf53 6 = .ok (.goto 4, 3) := by decide +kernel
theorem dJ9_max_7cf53_9 : decode cJ9_max_7cf53 9 = .ok (.iload_n 1, 1) := by decide +kernel
theorem dJ9_max_7cf53_10 : decode cJ9_max_7cf53 10 = .ok (.ireturn, 1) := by decide +kernel
theorem dJ9_max_f86c9_0 : decode cJ9_max_f86c9 0 = .ok (.lload_n 0, 1) := by decide +kernel
theorem dJ9_max_f86c9_1 : decode cJ9_max_f86c9 1 = .ok (.lload_n 2, 1) := by decide +kernel
theorem dJ9_max_f86c9_2 : decode cJ9_max_f86c9 2 = .ok (.lcmp, 1) := by decide +kernel
theorem dJ9_max_f86c9_3 : decode cJ9_max_f86c9 3 = .ok (.ifCond .lt 7, 3) := by decide +kernel
theorem dJ9_max_f86c9_6 : decode cJ9_max_f86c9 6 = .ok (.lload_n 0, 1) := by decide +kernel
theorem dJ9_max_f86c9_7 : decode cJ9_max_f86c9 7 = .ok (.goto 4, 3) := by decide +kernel
theorem dJ9_max_f86c9_10 : decode cJ9_max_f86c9 10 = .ok (.lload_n 2, 1) := by decide +kernel
theorem dJ9_max_f86c9_11 : decode cJ9_max_f86c9 11 = .ok (.lreturn, 1) := by decide +kernel
theorem dJ9_min_7cf53_0 : decode cJ9_min_7cf53 0 = .ok (.iload_n 0, 1) := by decide +kernel
theorem dJ9_min_7cf53_1 : decode cJ9_min_7cf53 1 = .ok (.iload_n 1, 1) := by decide +kernel
theorem dJ9_min_7cf53_2 : decode cJ9_min_7cf53 2 = .ok (.if_icmp .gt 7, 3) := by decide +kernel
theorem dJ9_min_7cf53_5 : decode cJ9_min_7cf53 5 = .ok (.iload_n 0, 1) := by decide +kernel
theorem dJ9_min_7cf53_6 : decode cJ9_min_7cf53 6 = .ok (.goto 4, 3) := by decide +kernel
theorem dJ9_min_7cf53_9 : decode cJ9_min_7cf53 9 = .ok (.iload_n 1, 1) := by decide +kernel
theorem dJ9_min_7cf53_10 : decode cJ9_min_7cf53 10 = .ok (.ireturn, 1) := by decide +kernel
