theorem dX0_init_0 : decode cX0_init 0 = .ok (.aload_n 0, 1) := by decide +kernel
theorem dX0_init_1 : decode cX0_init 1 = .ok (.invokespecial 3, 3) := by decide +kernel
theorem dX0_init_4 : decode cX0_init 4 = .ok (.aload_n 0, 1) := by decide +kernel
theorem dX0_init_5 : decode cX0_init 5 = .ok (.bipush 24, 2) := by decide +kernel
theorem dX0_init_7 : decode cX0_init 7 = .ok (.newarray .int, 2) := by decide +kernel
theorem dX0_init_9 : decode cX0_init 9 = .ok (.putfield 9, 3) := by decide +kernel
theorem dX0_init_12 : decode cX0_init 12 = .ok (.aload_n 0, 1) := by decide +kernel
theorem dX0_init_13 : decode cX0_init 13 = .ok (.iconst 0, 1) := by decide +kernel
theorem dX0_init_14 : decode cX0_init 14 = .ok (.putfield 15, 3) := by decide +kernel
theorem dX0_init_17 : decode cX0_init 17 = .ok (.aload_n 0, 1) := by decide +kernel
theorem dX0_init_18 : decode cX0_init 18 = .ok (.iconst 0, 1) := by decide +kernel
theorem dX0_init_19 : decode cX0_init 19 = .ok (.putfield 19, 3) := by decide +kernel
theorem dX0_init_22 : decode cX0_init 22 = .ok (.aload_n 0, 1) := by decide +kernel
theorem dX0_init_23 : decode cX0_init 23 = .ok (.iconst 0, 1) := by decide +kernel
theorem dX0_init_24 : decode cX0_init 24 = .ok (.putfield 22, 3) := by decide +kernel
theorem dX0_init_27 : decode cX0_init 27 = .ok (.aload_n 0, 1) := by decide +kernel
theorem dX0_init_28 : decode cX0_init 28 = .ok (.iconst 0, 1) := by decide +kernel
theorem dX0_init_29 : decode cX0_init 29 = .ok (.putfield 25, 3) := by decide +kernel
theorem dX0_init_32 : decode cX0_init 32 = .ok (.aload_n 0, 1) := by decide +kernel
theorem dX0_init_33 : decode cX0_init 33 = .ok (.iconst 0, 1) := by decide +kernel
theorem dX0_init_34 : decode cX0_init 34 = .ok (.putfield 28, 3) := by decide +kernel
theorem dX0_init_37 : decode cX0_init 37 = .ok (.aload_n 0, 1) := by decide +kernel
theorem dX0_init_38 : decode cX0_init 38 = .ok (.iconst 1, 1) := by decide +kernel
theorem dX0_init_39 : decode cX0_init 39 = .ok (.putfield 31, 3) := by decide +kernel
theorem dX0_init_42 : decode cX0_init 42 = .ok (.aload_n 0, 1) := by decide +kernel
theorem dX0_init_43 : decode cX0_init 43 = .ok (.iconst 3, 1) := by decide +kernel
theorem dX0_init_44 : decode cX0_init 44 = .ok (.putfield 34, 3) := by decide +kernel
theorem dX0_init_47 : decode cX0_init 47 = .ok (.aload_n 0, 1) := by decide +kernel
theorem dX0_init_48 : decode cX0_init 48 = .ok (.iconst 0, 1) := by decide +kernel
theorem dX0_init_49 : decode cX0_init 49 = .ok (.putfield 37, 3) := by decide +kernel
theorem dX0_init_52 : decode cX0_init 52 = .ok (.return_, 1) := by decide +kernel
theorem dX0_take_0 : decode cX0_take 0 = .ok (.aload_n 1, 1) := by decide +kernel
theorem dX0_take_1 : decode cX0_take 1 = .ok (.ifnonnull 4, 3) := by decide +kernel
theorem dX0_take_4 : decode cX0_take 4 = .ok (.return_, 1) := by decide +kernel
theorem dX0_take_5 : decode cX0_take 5 = .ok (.aload_n 1, 1) := by decide +kernel
theorem dX0_take_6 : decode cX0_take 6 = .ok (.getfield 9, 3) := by decide +kernel
theorem dX0_take_9 : decode cX0_take 9 = .ok (.iconst 0, 1) := by decide +kernel
theorem dX0_take_10 : decode cX0_take 10 = .ok (.aload_n 0, 1) := by decide +kernel
theorem dX0_take_11 : decode cX0_take 11 = .ok (.getfield 9, 3) := by decide +kernel
theorem dX0_take_14 : decode cX0_take 14 = .ok (.iconst 0, 1) := by decide +kernel
theorem dX0_take_15 : decode cX0_take 15 = .ok (.bipush 24, 2) := by decide +kernel
theorem dX0_take_17 : decode cX0_take 17 = .ok (.invokestatic 40, 3) := by decide +kernel
theorem dX0_take_20 : decode cX0_take 20 = .ok (.aload_n 0, 1) := by decide +kernel
theorem dX0_take_21 : decode cX0_take 21 = .ok (.aload_n 1, 1) := by decide +kernel
theorem dX0_take_22 : decode cX0_take 22 = .ok (.getfield 15, 3) := by decide +kernel
theorem dX0_take_25 : decode cX0_take 25 = .ok (.putfield 15, 3) := by decide +kernel
theorem dX0_take_28 : decode cX0_take 28 = .ok (.aload_n 0, 1) := by decide +kernel
theorem dX0_take_29 : decode cX0_take 29 = .ok (.aload_n 1, 1) := by decide +kernel
theorem dX0_take_30 : decode cX0_take 30 = .ok (.getfield 19, 3) := by decide +kernel
theorem dX0_take_33 : decode cX0_take 33 = .ok (.putfield 19, 3) := by decide +kernel
theorem dX0_take_36 : decode cX0_take 36 = .ok (.aload_n 0, 1) := by decide +kernel
theorem dX0_take_37 : decode cX0_take 37 = .ok (.aload_n 1, 1) := by decide +kernel
theorem dX0_take_38 : decode cX0_take 38 = .ok (.getfield 22, 3) := by decide +kernel
theorem dX0_take_41 : decode cX0_take 41 = .ok (.putfield 22, 3) := by decide +kernel
theorem dX0_take_44 : decode cX0_take 44 = .ok (.aload_n 0, 1) := by decide +kernel
theorem dX0_take_45 : decode cX0_take 45 = .ok (.aload_n 1, 1) := by decide +kernel
theorem dX0_take_46 : decode cX0_take 46 = .ok (.getfield 25, 3) := by decide +kernel
theorem dX0_take_49 : decode cX0_take 49 = .ok (.putfield 25, 3) := by decide +kernel
theorem dX0_take_52 : decode cX0_take 52 = .ok (.aload_n 0, 1) := by decide +kernel
theorem dX0_take_53 : decode cX0_take 53 = .ok (.aload_n 1, 1) := by decide +kernel
theorem dX0_take_54 : decode cX0_take 54 = .ok (.getfield 28, 3) := by decide +kernel
theorem dX0_take_57 : decode cX0_take 57 = .ok (.putfield 28, 3) := by decide +kernel
theorem dX0_take_60 : decode cX0_take 60 = .ok (.aload_n 0, 1) := by decide +kernel
theorem dX0_take_61 : decode cX0_take 61 = .ok (.aload_n 1, 1) := by decide +kernel
theorem dX0_take_62 : decode cX0_take 62 = .ok (.getfield 31, 3) := by decide +kernel
theorem dX0_take_65 : decode cX0_take 65 = .ok (.putfield 31, 3) := by decide +kernel
theorem dX0_take_68 : decode cX0_take 68 = .ok (.aload_n 0, 1) := by decide +kernel
theorem dX0_take_69 : decode cX0_take 69 = .ok (.aload_n 1, 1) := by decide +kernel
theorem dX0_take_70 : decode cX0_take 70 = .ok (.getfield 34, 3) := by decide +kernel
theorem dX0_take_73 : decode cX0_take 73 = .ok (.putfield 34, 3) := by decide +kernel
theorem dX0_take_76 : decode cX0_take 76 = .ok (.aload_n 0, 1) := by decide +kernel
theorem dX0_take_77 : decode cX0_take 77 = .ok (.aload_n 1, 1) := by decide +kernel
theorem dX0_take_78 : decode cX0_take 78 = .ok (.getfield 37, 3) := by decide +kernel
theorem dX0_take_81 : decode cX0_take 81 = .ok (.putfield 37, 3) := by decide +kernel
theorem dX0_take_84 : decode cX0_take 84 = .ok (.return_, 1) := by decide +kernel
theorem dX0_changeHe_0 : decode cX0_changeHe 0 = .ok (.iload_n 1, 1) := by decide +kernel
theorem dX0_changeHe_1 : decode cX0_changeHe 1 = .ok (.tableswitch 63 0 2 #[27, 39, 51], 27) := by decide +kernel
theorem dX0_changeHe_28 : decode cX0_changeHe 28 = .ok (.aload_n 0, 1) := by decide +kernel
theorem dX0_changeHe_29 : decode cX0_changeHe 29 = .ok (.getfield 28, 3) := by decide +kernel
theorem dX0_changeHe_32 : decode cX0_changeHe 32 = .ok (.istore_n 3, 1) := by decide +kernel
theorem dX0_changeHe_33 : decode cX0_changeHe 33 = .ok (.aload_n 0, 1) := by decide +kernel
theorem dX0_changeHe_34 : decode cX0_changeHe 34 = .ok (.iload_n 2, 1) := by decide +kernel
theorem dX0_changeHe_35 : decode cX0_changeHe 35 = .ok (.putfield 28, 3) := by decide +kernel
theorem dX0_changeHe_38 : decode cX0_changeHe 38 = .ok (.iload_n 3, 1) := by decide +kernel
theorem dX0_changeHe_39 : decode cX0_changeHe 39 = .ok (.ireturn, 1) := by decide +kernel
theorem dX0_changeHe_40 : decode cX0_changeHe 40 = .ok (.aload_n 0, 1) := by decide +kernel
theorem dX0_changeHe_41 : decode cX0_changeHe 41 = .ok (.getfield 31, 3) := by decide +kernel
theorem dX0_changeHe_44 : decode cX0_changeHe 44 = .ok (.istore_n 3, 1) := by decide +kernel
theorem dX0_changeHe_45 : decode cX0_changeHe 45 = .ok (.aload_n 0, 1) := by decide +kernel
theorem dX0_changeHe_46 : decode cX0_changeHe 46 = .ok (.iload_n 2, 1) := by decide +kernel
theorem dX0_changeHe_47 : decode cX0_changeHe 47 = .ok (.putfield 31, 3) := by decide +kernel
theorem dX0_changeHe_50 : decode cX0_changeHe 50 = .ok (.iload_n 3, 1) := by decide +kernel
theorem dX0_changeHe_51 : decode cX0_changeHe 51 = .ok (.ireturn, 1) := by decide +kernel
theorem dX0_changeHe_52 : decode cX0_changeHe 52 = .ok (.aload_n 0, 1) := by decide +kernel
theorem dX0_changeHe_53 : decode cX0_changeHe 53 = .ok (.getfield 34, 3) := by decide +kernel
theorem dX0_changeHe_56 : decode cX0_changeHe 56 = .ok (.istore_n 3, 1) := by decide +kernel
theorem dX0_changeHe_57 : decode cX0_changeHe 57 = .ok (.aload_n 0, 1) := by decide +kernel
theorem dX0_changeHe_58 : decode cX0_changeHe 58 = .ok (.iload_n 2, 1) := by decide +kernel
theorem dX0_changeHe_59 : decode cX0_changeHe 59 = .ok (.putfield 34, 3) := by decide +kernel
theorem dX0_changeHe_62 : decode cX0_changeHe 62 = .ok (.iload_n 3, 1) := by decide +kernel
theorem dX0_changeHe_63 : decode cX0_changeHe 63 = .ok (.ireturn, 1) := by decide +kernel
theorem dX0_changeHe_64 : decode cX0_changeHe 64 = .ok (.aload_n 0, 1) := by decide +kernel
theorem dX0_changeHe_65 : decode cX0_changeHe 65 = .ok (.getfield 37, 3) := by decide +kernel
theorem dX0_changeHe_68 : decode cX0_changeHe 68 = .ok (.istore_n 3, 1) := by decide +kernel
theorem dX0_changeHe_69 : decode cX0_changeHe 69 = .ok (.aload_n 0, 1) := by decide +kernel
theorem dX0_changeHe_70 : decode cX0_changeHe 70 = .ok (.iload_n 2, 1) := by decide +kernel
theorem dX0_changeHe_71 : decode cX0_changeHe 71 = .ok (.putfield 37, 3) := by decide +kernel
theorem dX0_changeHe_74 : decode cX0_changeHe 74 = .ok (.iload_n 3, 1) := by decide +kernel
theorem dX0_changeHe_75 : decode cX0_changeHe 75 = .ok (.ireturn, 1) := by decide +kernel
theorem dX0_soreAt_0 : decode cX0_soreAt 0 = .ok (.iload_n 1, 1) := by decide +kernel
theorem dX0_soreAt_1 : decode cX0_soreAt 1 = .ok (.ifCond .lt 9, 3) := by decide +kernel
theorem dX0_soreAt_4 : decode cX0_soreAt 4 = .ok (.iload_n 1, 1) := by decide +kernel
theorem dX0_soreAt_5 : decode cX0_soreAt 5 = .ok (.bipush 24, 2) := by decide +kernel
theorem dX0_soreAt_7 : decode cX0_soreAt 7 = .ok (.if_icmp .lt 7, 3) := by decide +kernel
theorem dX0_soreAt_10 : decode cX0_soreAt 10 = .ok (.iconst 0, 1) := by decide +kernel
theorem dX0_soreAt_11 : decode cX0_soreAt 11 = .ok (.goto 9, 3) := by decide +kernel
theorem dX0_soreAt_14 : decode cX0_soreAt 14 = .ok (.aload_n 0, 1) := by decide +kernel
theorem dX0_soreAt_15 : decode cX0_soreAt 15 = .ok (.getfield 9, 3) := by decide +kernel
theorem dX0_soreAt_18 : decode cX0_soreAt 18 = .ok (.iload_n 1, 1) := by decide +kernel
theorem dX0_soreAt_19 : decode cX0_soreAt 19 = .ok (.iaload, 1) := by decide +kernel
theorem dX0_soreAt_20 : decode cX0_soreAt 20 = .ok (.ireturn, 1) := by decide +kernel
theorem dX0_setSore_0 : decode cX0_setSore 0 = .ok (.iload_n 1, 1) := by decide +kernel
theorem dX0_setSore_1 : decode cX0_setSore 1 = .ok (.invokestatic 46, 3) := by decide +kernel
theorem dX0_setSore_4 : decode cX0_setSore 4 = .ok (.ifCond .ne 10, 3) := by decide +kernel
theorem dX0_setSore_7 : decode cX0_setSore 7 = .ok (.aload_n 0, 1) := by decide +kernel
theorem dX0_setSore_8 : decode cX0_setSore 8 = .ok (.getfield 9, 3) := by decide +kernel
theorem dX0_setSore_11 : decode cX0_setSore 11 = .ok (.iload_n 1, 1) := by decide +kernel
theorem dX0_setSore_12 : decode cX0_setSore 12 = .ok (.iload_n 2, 1) := by decide +kernel
theorem dX0_setSore_13 : decode cX0_setSore 13 = .ok (.iastore, 1) := by decide +kernel
theorem dX0_setSore_14 : decode cX0_setSore 14 = .ok (.return_, 1) := by decide +kernel
theorem dX0_soreOfAll_0 : decode cX0_soreOfAll 0 = .ok (.iconst 0, 1) := by decide +kernel
theorem dX0_soreOfAll_1 : decode cX0_soreOfAll 1 = .ok (.istore_n 1, 1) := by decide +kernel
theorem dX0_soreOfAll_2 : decode cX0_soreOfAll 2 = .ok (.iconst 0, 1) := by decide +kernel
theorem dX0_soreOfAll_3 : decode cX0_soreOfAll 3 = .ok (.istore_n 2, 1) := by decide +kernel
theorem dX0_soreOfAll_4 : decode cX0_soreOfAll 4 = .ok (.iload_n 2, 1) := by decide +kernel
theorem dX0_soreOfAll_5 : decode cX0_soreOfAll 5 = .ok (.bipush 24, 2) := by decide +kernel
theorem dX0_soreOfAll_7 : decode cX0_soreOfAll 7 = .ok (.if_icmp .ge 18, 3) := by decide +kernel
theorem dX0_soreOfAll_10 : decode cX0_soreOfAll 10 = .ok (.iload_n 1, 1) := by decide +kernel
theorem dX0_soreOfAll_11 : decode cX0_soreOfAll 11 = .ok (.aload_n 0, 1) := by decide +kernel
theorem dX0_soreOfAll_12 : decode cX0_soreOfAll 12 = .ok (.getfield 9, 3) := by decide +kernel
theorem dX0_soreOfAll_15 : decode cX0_soreOfAll 15 = .ok (.iload_n 2, 1) := by decide +kernel
theorem dX0_soreOfAll_16 : decode cX0_soreOfAll 16 = .ok (.iaload, 1) := by decide +kernel
theorem dX0_soreOfAll_17 : decode cX0_soreOfAll 17 = .ok (.iadd, 1) := by decide +kernel
theorem dX0_soreOfAll_18 : decode cX0_soreOfAll 18 = .ok (.istore_n 1, 1) := by decide +kernel
theorem dX0_soreOfAll_19 : decode cX0_soreOfAll 19 = .ok (.iinc 2 1, 3) := by decide +kernel
theorem dX0_soreOfAll_22 : decode cX0_soreOfAll 22 = .ok (.goto (-18), 3) := by decide +kernel
theorem dX0_soreOfAll_25 : decode cX0_soreOfAll 25 = .ok (.iload_n 1, 1) := by decide +kernel
theorem dX0_soreOfAll_26 : decode cX0_soreOfAll 26 = .ok (.ireturn, 1) := by decide +kernel
theorem dX0_soreAround_0 : decode cX0_soreAround 0 = .ok (.iconst 0, 1) := by decide +kernel
theorem dX0_soreAround_1 : decode cX0_soreAround 1 = .ok (.istore_n 2, 1) := by decide +kernel
theorem dX0_soreAround_2 : decode cX0_soreAround 2 = .ok (.iconst 0, 1) := by decide +kernel
theorem dX0_soreAround_3 : decode cX0_soreAround 3 = .ok (.istore_n 3, 1) := by decide +kernel
theorem dX0_soreAround_4 : decode cX0_soreAround 4 = .ok (.iload_n 3, 1) := by decide +kernel
theorem dX0_soreAround_5 : decode cX0_soreAround 5 = .ok (.bipush 24, 2) := by decide +kernel
theorem dX0_soreAround_7 : decode cX0_soreAround 7 = .ok (.if_icmp .ge 27, 3) := by decide +kernel
theorem dX0_soreAround_10 : decode cX0_soreAround 10 = .ok (.iload_n 1, 1) := by decide +kernel
theorem dX0_soreAround_11 : decode cX0_soreAround 11 = .ok (.iload_n 3, 1) := by decide +kernel
theorem dX0_soreAround_12 : decode cX0_soreAround 12 = .ok (.invokestatic 50, 3) := by decide +kernel
theorem dX0_soreAround_15 : decode cX0_soreAround 15 = .ok (.iconst 1, 1) := by decide +kernel
theorem dX0_soreAround_16 : decode cX0_soreAround 16 = .ok (.if_icmp .ne 12, 3) := by decide +kernel
theorem dX0_soreAround_19 : decode cX0_soreAround 19 = .ok (.iload_n 2, 1) := by decide +kernel
theorem dX0_soreAround_20 : decode cX0_soreAround 20 = .ok (.aload_n 0, 1) := by decide +kernel
theorem dX0_soreAround_21 : decode cX0_soreAround 21 = .ok (.getfield 9, 3) := by decide +kernel
theorem dX0_soreAround_24 : decode cX0_soreAround 24 = .ok (.iload_n 3, 1) := by decide +kernel
theorem dX0_soreAround_25 : decode cX0_soreAround 25 = .ok (.iaload, 1) := by decide +kernel
theorem dX0_soreAround_26 : decode cX0_soreAround 26 = .ok (.iadd, 1) := by decide +kernel
theorem dX0_soreAround_27 : decode cX0_soreAround 27 = .ok (.istore_n 2, 1) := by decide +kernel
theorem dX0_soreAround_28 : decode cX0_soreAround 28 = .ok (.iinc 3 1, 3) := by decide +kernel
theorem dX0_soreAround_31 : decode cX0_soreAround 31 = .ok (.goto (-27), 3) := by decide +kernel
theorem dX0_soreAround_34 : decode cX0_soreAround 34 = .ok (.iload_n 2, 1) := by decide +kernel
theorem dX0_soreAround_35 : decode cX0_soreAround 35 = .ok (.ireturn, 1) := by decide +kernel
theorem dX0_strokeOn_0 : decode cX0_strokeOn 0 = .ok (.iload_n 1, 1) := by decide +kernel
theorem dX0_strokeOn_1 : decode cX0_strokeOn 1 = .ok (.invokestatic 46, 3) := by decide +kernel
theorem dX0_strokeOn_4 : decode cX0_strokeOn 4 = .ok (.ifCond .eq 4, 3) := by decide +kernel
theorem dX0_strokeOn_7 : decode cX0_strokeOn 7 = .ok (.return_, 1) := by decide +kernel
theorem dX0_strokeOn_8 : decode cX0_strokeOn 8 = .ok (.aload_n 0, 1) := by decide +kernel
theorem dX0_strokeOn_9 : decode cX0_strokeOn 9 = .ok (.getfield 9, 3) := by decide +kernel
theorem dX0_strokeOn_12 : decode cX0_strokeOn 12 = .ok (.iload_n 1, 1) := by decide +kernel
theorem dX0_strokeOn_13 : decode cX0_strokeOn 13 = .ok (.bipush 9, 2) := by decide +kernel
theorem dX0_strokeOn_15 : decode cX0_strokeOn 15 = .ok (.aload_n 0, 1) := by decide +kernel
theorem dX0_strokeOn_16 : decode cX0_strokeOn 16 = .ok (.getfield 9, 3) := by decide +kernel
theorem dX0_strokeOn_19 : decode cX0_strokeOn 19 = .ok (.iload_n 1, 1) := by decide +kernel
theorem dX0_strokeOn_20 : decode cX0_strokeOn 20 = .ok (.iaload, 1) := by decide +kernel
theorem dX0_strokeOn_21 : decode cX0_strokeOn 21 = .ok (.iconst 1, 1) := by decide +kernel
theorem dX0_strokeOn_22 : decode cX0_strokeOn 22 = .ok (.iadd, 1) := by decide +kernel
theorem dX0_strokeOn_23 : decode cX0_strokeOn 23 = .ok (.invokestatic 54, 3) := by decide +kernel
theorem dX0_strokeOn_26 : decode cX0_strokeOn 26 = .ok (.iastore, 1) := by decide +kernel
theorem dX0_strokeOn_27 : decode cX0_strokeOn 27 = .ok (.aload_n 0, 1) := by decide +kernel
theorem dX0_strokeOn_28 : decode cX0_strokeOn 28 = .ok (.iload_n 1, 1) := by decide +kernel
theorem dX0_strokeOn_29 : decode cX0_strokeOn 29 = .ok (.putfield 22, 3) := by decide +kernel
theorem dX0_strokeOn_32 : decode cX0_strokeOn 32 = .ok (.aload_n 0, 1) := by decide +kernel
theorem dX0_strokeOn_33 : decode cX0_strokeOn 33 = .ok (.getfield 19, 3) := by decide +kernel
theorem dX0_strokeOn_36 : decode cX0_strokeOn 36 = .ok (.bipush 24, 2) := by decide +kernel
theorem dX0_strokeOn_38 : decode cX0_strokeOn 38 = .ok (.if_icmp .eq 26, 3) := by decide +kernel
theorem dX0_strokeOn_41 : decode cX0_strokeOn 41 = .ok (.aload_n 0, 1) := by decide +kernel
theorem dX0_strokeOn_42 : decode cX0_strokeOn 42 = .ok (.aload_n 0, 1) := by decide +kernel
theorem dX0_strokeOn_43 : decode cX0_strokeOn 43 = .ok (.getfield 19, 3) := by decide +kernel
theorem dX0_strokeOn_46 : decode cX0_strokeOn 46 = .ok (.iload_n 1, 1) := by decide +kernel
theorem dX0_strokeOn_47 : decode cX0_strokeOn 47 = .ok (.if_icmp .ne 10, 3) := by decide +kernel
theorem dX0_strokeOn_50 : decode cX0_strokeOn 50 = .ok (.aload_n 0, 1) := by decide +kernel
theorem dX0_strokeOn_51 : decode cX0_strokeOn 51 = .ok (.invokevirtual 59, 3) := by decide +kernel
theorem dX0_strokeOn_54 : decode cX0_strokeOn 54 = .ok (.goto 7, 3) := by decide +kernel
theorem dX0_strokeOn_57 : decode cX0_strokeOn 57 = .ok (.aload_n 0, 1) := by decide +kernel
theorem dX0_strokeOn_58 : decode cX0_strokeOn 58 = .ok (.invokevirtual 63, 3) := by decide +kernel
theorem dX0_strokeOn_61 : decode cX0_strokeOn 61 = .ok (.putfield 19, 3) := by decide +kernel
theorem dX0_strokeOn_64 : decode cX0_strokeOn 64 = .ok (.aload_n 0, 1) := by decide +kernel
theorem dX0_strokeOn_65 : decode cX0_strokeOn 65 = .ok (.dup, 1) := by decide +kernel
theorem dX0_strokeOn_66 : decode cX0_strokeOn 66 = .ok (.getfield 25, 3) := by decide +kernel
theorem dX0_strokeOn_69 : decode cX0_strokeOn 69 = .ok (.iconst 1, 1) := by decide +kernel
theorem dX0_strokeOn_70 : decode cX0_strokeOn 70 = .ok (.iadd, 1) := by decide +kernel
theorem dX0_strokeOn_71 : decode cX0_strokeOn 71 = .ok (.putfield 25, 3) := by decide +kernel
theorem dX0_strokeOn_74 : decode cX0_strokeOn 74 = .ok (.return_, 1) := by decide +kernel
theorem dX0_whenStruck_0 : decode cX0_whenStruck 0 = .ok (.aload_n 0, 1) := by decide +kernel
theorem dX0_whenStruck_1 : decode cX0_whenStruck 1 = .ok (.getfield 15, 3) := by decide +kernel
theorem dX0_whenStruck_4 : decode cX0_whenStruck 4 = .ok (.lookupswitch 61 #[(3, 28), (4, 39)], 28) := by decide +kernel
theorem dX0_whenStruck_32 : decode cX0_whenStruck 32 = .ok (.aload_n 0, 1) := by decide +kernel
theorem dX0_whenStruck_33 : decode cX0_whenStruck 33 = .ok (.getfield 19, 3) := by decide +kernel
theorem dX0_whenStruck_36 : decode cX0_whenStruck 36 = .ok (.bipush 7, 2) := by decide +kernel
theorem dX0_whenStruck_38 : decode cX0_whenStruck 38 = .ok (.iadd, 1) := by decide +kernel
theorem dX0_whenStruck_39 : decode cX0_whenStruck 39 = .ok (.bipush 24, 2) := by decide +kernel
theorem dX0_whenStruck_41 : decode cX0_whenStruck 41 = .ok (.irem, 1) := by decide +kernel
theorem dX0_whenStruck_42 : decode cX0_whenStruck 42 = .ok (.ireturn, 1) := by decide +kernel
theorem dX0_whenStruck_43 : decode cX0_whenStruck 43 = .ok (.aload_n 0, 1) := by decide +kernel
theorem dX0_whenStruck_44 : decode cX0_whenStruck 44 = .ok (.aload_n 0, 1) := by decide +kernel
theorem dX0_whenStruck_45 : decode cX0_whenStruck 45 = .ok (.getfield 19, 3) := by decide +kernel
theorem dX0_whenStruck_48 : decode cX0_whenStruck 48 = .ok (.invokevirtual 66, 3) := by decide +kernel
theorem dX0_whenStruck_51 : decode cX0_whenStruck 51 = .ok (.iconst 3, 1) := by decide +kernel
theorem dX0_whenStruck_52 : decode cX0_whenStruck 52 = .ok (.if_icmp .lt 8, 3) := by decide +kernel
theorem dX0_whenStruck_55 : decode cX0_whenStruck 55 = .ok (.bipush 24, 2) := by decide +kernel
theorem dX0_whenStruck_57 : decode cX0_whenStruck 57 = .ok (.goto 7, 3) := by decide +kernel
theorem dX0_whenStruck_60 : decode cX0_whenStruck 60 = .ok (.aload_n 0, 1) := by decide +kernel
theorem dX0_whenStruck_61 : decode cX0_whenStruck 61 = .ok (.getfield 19, 3) := by decide +kernel
theorem dX0_whenStruck_64 : decode cX0_whenStruck 64 = .ok (.ireturn, 1) := by decide +kernel
theorem dX0_whenStruck_65 : decode cX0_whenStruck 65 = .ok (.bipush 24, 2) := by decide +kernel
theorem dX0_whenStruck_67 : decode cX0_whenStruck 67 = .ok (.ireturn, 1) := by decide +kernel
theorem dX0_whenBeside_0 : decode cX0_whenBeside 0 = .ok (.aload_n 0, 1) := by decide +kernel
theorem dX0_whenBeside_1 : decode cX0_whenBeside 1 = .ok (.getfield 15, 3) := by decide +kernel
theorem dX0_whenBeside_4 : decode cX0_whenBeside 4 = .ok (.iconst 5, 1) := by decide +kernel
theorem dX0_whenBeside_5 : decode cX0_whenBeside 5 = .ok (.if_icmp .ne 6, 3) := by decide +kernel
theorem dX0_whenBeside_8 : decode cX0_whenBeside 8 = .ok (.bipush 24, 2) := by decide +kernel
theorem dX0_whenBeside_10 : decode cX0_whenBeside 10 = .ok (.ireturn, 1) := by decide +kernel
theorem dX0_whenBeside_11 : decode cX0_whenBeside 11 = .ok (.aload_n 0, 1) := by decide +kernel
theorem dX0_whenBeside_12 : decode cX0_whenBeside 12 = .ok (.getfield 15, 3) := by decide +kernel
theorem dX0_whenBeside_15 : decode cX0_whenBeside 15 = .ok (.iconst 2, 1) := by decide +kernel
theorem dX0_whenBeside_16 : decode cX0_whenBeside 16 = .ok (.if_icmp .ne 8, 3) := by decide +kernel
theorem dX0_whenBeside_19 : decode cX0_whenBeside 19 = .ok (.aload_n 0, 1) := by decide +kernel
theorem dX0_whenBeside_20 : decode cX0_whenBeside 20 = .ok (.getfield 19, 3) := by decide +kernel
theorem dX0_whenBeside_23 : decode cX0_whenBeside 23 = .ok (.ireturn, 1) := by decide +kernel
theorem dX0_whenBeside_24 : decode cX0_whenBeside 24 = .ok (.aload_n 0, 1) := by decide +kernel
theorem dX0_whenBeside_25 : decode cX0_whenBeside 25 = .ok (.getfield 15, 3) := by decide +kernel
theorem dX0_whenBeside_28 : decode cX0_whenBeside 28 = .ok (.iconst 4, 1) := by decide +kernel
theorem dX0_whenBeside_29 : decode cX0_whenBeside 29 = .ok (.if_icmp .ne 23, 3) := by decide +kernel
theorem dX0_whenBeside_32 : decode cX0_whenBeside 32 = .ok (.aload_n 0, 1) := by decide +kernel
theorem dX0_whenBeside_33 : decode cX0_whenBeside 33 = .ok (.getfield 19, 3) := by decide +kernel
theorem dX0_whenBeside_36 : decode cX0_whenBeside 36 = .ok (.aload_n 0, 1) := by decide +kernel
theorem dX0_whenBeside_37 : decode cX0_whenBeside 37 = .ok (.getfield 37, 3) := by decide +kernel
theorem dX0_whenBeside_40 : decode cX0_whenBeside 40 = .ok (.aload_n 0, 1) := by decide +kernel
theorem dX0_whenBeside_41 : decode cX0_whenBeside 41 = .ok (.getfield 19, 3) := by decide +kernel
theorem dX0_whenBeside_44 : decode cX0_whenBeside 44 = .ok (.bipush 6, 2) := by decide +kernel
theorem dX0_whenBeside_46 : decode cX0_whenBeside 46 = .ok (.irem, 1) := by decide +kernel
theorem dX0_whenBeside_47 : decode cX0_whenBeside 47 = .ok (.invokestatic 70, 3) := by decide +kernel
theorem dX0_whenBeside_50 : decode cX0_whenBeside 50 = .ok (.iadd, 1) := by decide +kernel
theorem dX0_whenBeside_51 : decode cX0_whenBeside 51 = .ok (.ireturn, 1) := by decide +kernel
theorem dX0_whenBeside_52 : decode cX0_whenBeside 52 = .ok (.aload_n 0, 1) := by decide +kernel
theorem dX0_whenBeside_53 : decode cX0_whenBeside 53 = .ok (.getfield 15, 3) := by decide +kernel
theorem dX0_whenBeside_56 : decode cX0_whenBeside 56 = .ok (.ifCond .eq 27, 3) := by decide +kernel
theorem dX0_whenBeside_59 : decode cX0_whenBeside 59 = .ok (.aload_n 0, 1) := by decide +kernel
theorem dX0_whenBeside_60 : decode cX0_whenBeside 60 = .ok (.getfield 25, 3) := by decide +kernel
theorem dX0_whenBeside_63 : decode cX0_whenBeside 63 = .ok (.iconst 3, 1) := by decide +kernel
theorem dX0_whenBeside_64 : decode cX0_whenBeside 64 = .ok (.irem, 1) := by decide +kernel
theorem dX0_whenBeside_65 : decode cX0_whenBeside 65 = .ok (.ifCond .ne 18, 3) := by decide +kernel
theorem dX0_whenBeside_68 : decode cX0_whenBeside 68 = .ok (.aload_n 0, 1) := by decide +kernel
theorem dX0_whenBeside_69 : decode cX0_whenBeside 69 = .ok (.getfield 19, 3) := by decide +kernel
theorem dX0_whenBeside_72 : decode cX0_whenBeside 72 = .ok (.bipush 6, 2) := by decide +kernel
theorem dX0_whenBeside_74 : decode cX0_whenBeside 74 = .ok (.idiv, 1) := by decide +kernel
theorem dX0_whenBeside_75 : decode cX0_whenBeside 75 = .ok (.iconst 3, 1) := by decide +kernel
theorem dX0_whenBeside_76 : decode cX0_whenBeside 76 = .ok (.if_icmp .ge 7, 3) := by decide +kernel
theorem dX0_whenBeside_79 : decode cX0_whenBeside 79 = .ok (.iconst 1, 1) := by decide +kernel
theorem dX0_whenBeside_80 : decode cX0_whenBeside 80 = .ok (.goto 4, 3) := by decide +kernel
theorem dX0_whenBeside_83 : decode cX0_whenBeside 83 = .ok (.iconst 0, 1) := by decide +kernel
theorem dX0_whenBeside_84 : decode cX0_whenBeside 84 = .ok (.istore_n 1, 1) := by decide +kernel
theorem dX0_whenBeside_85 : decode cX0_whenBeside 85 = .ok (.iload_n 1, 1) := by decide +kernel
theorem dX0_whenBeside_86 : decode cX0_whenBeside 86 = .ok (.ifCond .eq 13, 3) := by decide +kernel
theorem dX0_whenBeside_89 : decode cX0_whenBeside 89 = .ok (.aload_n 0, 1) := by decide +kernel
theorem dX0_whenBeside_90 : decode cX0_whenBeside 90 = .ok (.getfield 19, 3) := by decide +kernel
theorem dX0_whenBeside_93 : decode cX0_whenBeside 93 = .ok (.bipush 6, 2) := by decide +kernel
theorem dX0_whenBeside_95 : decode cX0_whenBeside 95 = .ok (.iadd, 1) := by decide +kernel
theorem dX0_whenBeside_96 : decode cX0_whenBeside 96 = .ok (.goto 7, 3) := by decide +kernel
theorem dX0_whenBeside_99 : decode cX0_whenBeside 99 = .ok (.aload_n 0, 1) := by decide +kernel
theorem dX0_whenBeside_100 : decode cX0_whenBeside 100 = .ok (.invokevirtual 75, 3) := by decide +kernel
theorem dX0_whenBeside_103 : decode cX0_whenBeside 103 = .ok (.istore_n 2, 1) := by decide +kernel
theorem dX0_whenBeside_104 : decode cX0_whenBeside 104 = .ok (.aload_n 0, 1) := by decide +kernel
theorem dX0_whenBeside_105 : decode cX0_whenBeside 105 = .ok (.getfield 15, 3) := by decide +kernel
theorem dX0_whenBeside_108 : decode cX0_whenBeside 108 = .ok (.iconst 3, 1) := by decide +kernel
theorem dX0_whenBeside_109 : decode cX0_whenBeside 109 = .ok (.if_icmp .ne 11, 3) := by decide +kernel
theorem dX0_whenBeside_112 : decode cX0_whenBeside 112 = .ok (.iload_n 2, 1) := by decide +kernel
theorem dX0_whenBeside_113 : decode cX0_whenBeside 113 = .ok (.aload_n 0, 1) := by decide +kernel
theorem dX0_whenBeside_114 : decode cX0_whenBeside 114 = .ok (.getfield 19, 3) := by decide +kernel
theorem dX0_whenBeside_117 : decode cX0_whenBeside 117 = .ok (.if_icmp .eq 5, 3) := by decide +kernel
theorem dX0_whenBeside_120 : decode cX0_whenBeside 120 = .ok (.iload_n 2, 1) := by decide +kernel
theorem dX0_whenBeside_121 : decode cX0_whenBeside 121 = .ok (.ireturn, 1) := by decide +kernel
theorem dX0_whenBeside_122 : decode cX0_whenBeside 122 = .ok (.aload_n 0, 1) := by decide +kernel
theorem dX0_whenBeside_123 : decode cX0_whenBeside 123 = .ok (.getfield 19, 3) := by decide +kernel
theorem dX0_whenBeside_126 : decode cX0_whenBeside 126 = .ok (.bipush 6, 2) := by decide +kernel
theorem dX0_whenBeside_128 : decode cX0_whenBeside 128 = .ok (.idiv, 1) := by decide +kernel
theorem dX0_whenBeside_129 : decode cX0_whenBeside 129 = .ok (.bipush 6, 2) := by decide +kernel
theorem dX0_whenBeside_131 : decode cX0_whenBeside 131 = .ok (.imul, 1) := by decide +kernel
theorem dX0_whenBeside_132 : decode cX0_whenBeside 132 = .ok (.bipush 6, 2) := by decide +kernel
theorem dX0_whenBeside_134 : decode cX0_whenBeside 134 = .ok (.iadd, 1) := by decide +kernel
theorem dX0_whenBeside_135 : decode cX0_whenBeside 135 = .ok (.iconst 1, 1) := by decide +kernel
theorem dX0_whenBeside_136 : decode cX0_whenBeside 136 = .ok (.isub, 1) := by decide +kernel
theorem dX0_whenBeside_137 : decode cX0_whenBeside 137 = .ok (.aload_n 0, 1) := by decide +kernel
theorem dX0_whenBeside_138 : decode cX0_whenBeside 138 = .ok (.getfield 19, 3) := by decide +kernel
theorem dX0_whenBeside_141 : decode cX0_whenBeside 141 = .ok (.bipush 6, 2) := by decide +kernel
theorem dX0_whenBeside_143 : decode cX0_whenBeside 143 = .ok (.irem, 1) := by decide +kernel
theorem dX0_whenBeside_144 : decode cX0_whenBeside 144 = .ok (.isub, 1) := by decide +kernel
theorem dX0_whenBeside_145 : decode cX0_whenBeside 145 = .ok (.istore_n 3, 1) := by decide +kernel
theorem dX0_whenBeside_146 : decode cX0_whenBeside 146 = .ok (.aload_n 0, 1) := by decide +kernel
theorem dX0_whenBeside_147 : decode cX0_whenBeside 147 = .ok (.iload_n 3, 1) := by decide +kernel
theorem dX0_whenBeside_148 : decode cX0_whenBeside 148 = .ok (.invokevirtual 66, 3) := by decide +kernel
theorem dX0_whenBeside_151 : decode cX0_whenBeside 151 = .ok (.ifCond .ne 7, 3) := by decide +kernel
theorem dX0_whenBeside_154 : decode cX0_whenBeside 154 = .ok (.iload_n 3, 1) := by decide +kernel
theorem dX0_whenBeside_155 : decode cX0_whenBeside 155 = .ok (.goto 7, 3) := by decide +kernel
theorem dX0_whenBeside_158 : decode cX0_whenBeside 158 = .ok (.aload_n 0, 1) := by decide +kernel
theorem dX0_whenBeside_159 : decode cX0_whenBeside 159 = .ok (.getfield 19, 3) := by decide +kernel
theorem dX0_whenBeside_162 : decode cX0_whenBeside 162 = .ok (.ireturn, 1) := by decide +kernel
theorem dX0_awayFromHand_0 : decode cX0_awayFromHand 0 = .ok (.aload_n 0, 1) := by decide +kernel
theorem dX0_awayFromHand_1 : decode cX0_awayFromHand 1 = .ok (.getfield 19, 3) := by decide +kernel
theorem dX0_awayFromHand_4 : decode cX0_awayFromHand 4 = .ok (.bipush 6, 2) := by decide +kernel
theorem dX0_awayFromHand_6 : decode cX0_awayFromHand 6 = .ok (.idiv, 1) := by decide +kernel
theorem dX0_awayFromHand_7 : decode cX0_awayFromHand 7 = .ok (.aload_n 0, 1) := by decide +kernel
theorem dX0_awayFromHand_8 : decode cX0_awayFromHand 8 = .ok (.getfield 22, 3) := by decide +kernel
theorem dX0_awayFromHand_11 : decode cX0_awayFromHand 11 = .ok (.bipush 6, 2) := by decide +kernel
theorem dX0_awayFromHand_13 : decode cX0_awayFromHand 13 = .ok (.idiv, 1) := by decide +kernel
theorem dX0_awayFromHand_14 : decode cX0_awayFromHand 14 = .ok (.if_icmp .eq 8, 3) := by decide +kernel
theorem dX0_awayFromHand_17 : decode cX0_awayFromHand 17 = .ok (.aload_n 0, 1) := by decide +kernel
theorem dX0_awayFromHand_18 : decode cX0_awayFromHand 18 = .ok (.getfield 19, 3) := by decide +kernel
theorem dX0_awayFromHand_21 : decode cX0_awayFromHand 21 = .ok (.ireturn, 1) := by decide +kernel
theorem dX0_awayFromHand_22 : decode cX0_awayFromHand 22 = .ok (.aload_n 0, 1) := by decide +kernel
theorem dX0_awayFromHand_23 : decode cX0_awayFromHand 23 = .ok (.getfield 19, 3) := by decide +kernel
theorem dX0_awayFromHand_26 : decode cX0_awayFromHand 26 = .ok (.bipush 6, 2) := by decide +kernel
theorem dX0_awayFromHand_28 : decode cX0_awayFromHand 28 = .ok (.irem, 1) := by decide +kernel
theorem dX0_awayFromHand_29 : decode cX0_awayFromHand 29 = .ok (.istore_n 1, 1) := by decide +kernel
theorem dX0_awayFromHand_30 : decode cX0_awayFromHand 30 = .ok (.aload_n 0, 1) := by decide +kernel
theorem dX0_awayFromHand_31 : decode cX0_awayFromHand 31 = .ok (.getfield 19, 3) := by decide +kernel
theorem dX0_awayFromHand_34 : decode cX0_awayFromHand 34 = .ok (.aload_n 0, 1) := by decide +kernel
theorem dX0_awayFromHand_35 : decode cX0_awayFromHand 35 = .ok (.getfield 22, 3) := by decide +kernel
theorem dX0_awayFromHand_38 : decode cX0_awayFromHand 38 = .ok (.iconst 1, 1) := by decide +kernel
theorem dX0_awayFromHand_39 : decode cX0_awayFromHand 39 = .ok (.iadd, 1) := by decide +kernel
theorem dX0_awayFromHand_40 : decode cX0_awayFromHand 40 = .ok (.if_icmp .ne 15, 3) := by decide +kernel
theorem dX0_awayFromHand_43 : decode cX0_awayFromHand 43 = .ok (.iload_n 1, 1) := by decide +kernel
theorem dX0_awayFromHand_44 : decode cX0_awayFromHand 44 = .ok (.iconst 5, 1) := by decide +kernel
theorem dX0_awayFromHand_45 : decode cX0_awayFromHand 45 = .ok (.if_icmp .ge 10, 3) := by decide +kernel
theorem dX0_awayFromHand_48 : decode cX0_awayFromHand 48 = .ok (.aload_n 0, 1) := by decide +kernel
theorem dX0_awayFromHand_49 : decode cX0_awayFromHand 49 = .ok (.getfield 19, 3) := by decide +kernel
theorem dX0_awayFromHand_52 : decode cX0_awayFromHand 52 = .ok (.iconst 1, 1) := by decide +kernel
theorem dX0_awayFromHand_53 : decode cX0_awayFromHand 53 = .ok (.iadd, 1) := by decide +kernel
theorem dX0_awayFromHand_54 : decode cX0_awayFromHand 54 = .ok (.ireturn, 1) := by decide +kernel
theorem dX0_awayFromHand_55 : decode cX0_awayFromHand 55 = .ok (.aload_n 0, 1) := by decide +kernel
theorem dX0_awayFromHand_56 : decode cX0_awayFromHand 56 = .ok (.getfield 19, 3) := by decide +kernel
theorem dX0_awayFromHand_59 : decode cX0_awayFromHand 59 = .ok (.aload_n 0, 1) := by decide +kernel
theorem dX0_awayFromHand_60 : decode cX0_awayFromHand 60 = .ok (.getfield 22, 3) := by decide +kernel
theorem dX0_awayFromHand_63 : decode cX0_awayFromHand 63 = .ok (.iconst 1, 1) := by decide +kernel
theorem dX0_awayFromHand_64 : decode cX0_awayFromHand 64 = .ok (.isub, 1) := by decide +kernel
theorem dX0_awayFromHand_65 : decode cX0_awayFromHand 65 = .ok (.if_icmp .ne 16, 3) := by decide +kernel
theorem dX0_awayFromHand_68 : decode cX0_awayFromHand 68 = .ok (.iload_n 1, 1) := by decide +kernel
theorem dX0_awayFromHand_69 : decode cX0_awayFromHand 69 = .ok (.ifCond .le 12, 3) := by decide +kernel
theorem dX0_awayFromHand_72 : decode cX0_awayFromHand 72 = .ok (.aload_n 0, 1) := by decide +kernel
theorem dX0_awayFromHand_73 : decode cX0_awayFromHand 73 = .ok (.getfield 19, 3) := by decide +kernel
theorem dX0_awayFromHand_76 : decode cX0_awayFromHand 76 = .ok (.iconst 1, 1) := by decide +kernel
theorem dX0_awayFromHand_77 : decode cX0_awayFromHand 77 = .ok (.isub, 1) := by decide +kernel
theorem dX0_awayFromHand_78 : decode cX0_awayFromHand 78 = .ok (.goto 7, 3) := by decide +kernel
theorem dX0_awayFromHand_81 : decode cX0_awayFromHand 81 = .ok (.aload_n 0, 1) := by decide +kernel
theorem dX0_awayFromHand_82 : decode cX0_awayFromHand 82 = .ok (.getfield 19, 3) := by decide +kernel
theorem dX0_awayFromHand_85 : decode cX0_awayFromHand 85 = .ok (.ireturn, 1) := by decide +kernel
theorem dX0_wordNow_0 : decode cX0_wordNow 0 = .ok (.aload_n 0, 1) := by decide +kernel
theorem dX0_wordNow_1 : decode cX0_wordNow 1 = .ok (.getfield 22, 3) := by decide +kernel
theorem dX0_wordNow_4 : decode cX0_wordNow 4 = .ok (.aload_n 0, 1) := by decide +kernel
theorem dX0_wordNow_5 : decode cX0_wordNow 5 = .ok (.getfield 19, 3) := by decide +kernel
theorem dX0_wordNow_8 : decode cX0_wordNow 8 = .ok (.aload_n 0, 1) := by decide +kernel
theorem dX0_wordNow_9 : decode cX0_wordNow 9 = .ok (.getfield 28, 3) := by decide +kernel
theorem dX0_wordNow_12 : decode cX0_wordNow 12 = .ok (.aload_n 0, 1) := by decide +kernel
theorem dX0_wordNow_13 : decode cX0_wordNow 13 = .ok (.getfield 34, 3) := by decide +kernel
theorem dX0_wordNow_16 : decode cX0_wordNow 16 = .ok (.invokestatic 78, 3) := by decide +kernel
theorem dX0_wordNow_19 : decode cX0_wordNow 19 = .ok (.ireturn, 1) := by decide +kernel
theorem dX0_readBy_0 : decode cX0_readBy 0 = .ok (.iload_n 1, 1) := by decide +kernel
theorem dX0_readBy_1 : decode cX0_readBy 1 = .ok (.iconst 5, 1) := by decide +kernel
theorem dX0_readBy_2 : decode cX0_readBy 2 = .ok (.if_icmp .ne 10, 3) := by decide +kernel
theorem dX0_readBy_5 : decode cX0_readBy 5 = .ok (.iload_n 3, 1) := by decide +kernel
theorem dX0_readBy_6 : decode cX0_readBy 6 = .ok (.bipush 24, 2) := by decide +kernel
theorem dX0_readBy_8 : decode cX0_readBy 8 = .ok (.invokestatic 82, 3) := by decide +kernel
theorem dX0_readBy_11 : decode cX0_readBy 11 = .ok (.ireturn, 1) := by decide +kernel
theorem dX0_readBy_12 : decode cX0_readBy 12 = .ok (.iload_n 2, 1) := by decide +kernel
theorem dX0_readBy_13 : decode cX0_readBy 13 = .ok (.ifCond .lt 9, 3) := by decide +kernel
theorem dX0_readBy_16 : decode cX0_readBy 16 = .ok (.iload_n 2, 1) := by decide +kernel
theorem dX0_readBy_17 : decode cX0_readBy 17 = .ok (.bipush 8, 2) := by decide +kernel
theorem dX0_readBy_19 : decode cX0_readBy 19 = .ok (.if_icmp .lt 8, 3) := by decide +kernel
theorem dX0_readBy_22 : decode cX0_readBy 22 = .ok (.aload_n 0, 1) := by decide +kernel
theorem dX0_readBy_23 : decode cX0_readBy 23 = .ok (.getfield 22, 3) := by decide +kernel
theorem dX0_readBy_26 : decode cX0_readBy 26 = .ok (.ireturn, 1) := by decide +kernel
theorem dX0_readBy_27 : decode cX0_readBy 27 = .ok (.aload_n 0, 1) := by decide +kernel
theorem dX0_readBy_28 : decode cX0_readBy 28 = .ok (.iload_n 1, 1) := by decide +kernel
theorem dX0_readBy_29 : decode cX0_readBy 29 = .ok (.iload_n 2, 1) := by decide +kernel
theorem dX0_readBy_30 : decode cX0_readBy 30 = .ok (.iconst 4, 1) := by decide +kernel
theorem dX0_readBy_31 : decode cX0_readBy 31 = .ok (.if_icmp .lt 7, 3) := by decide +kernel
theorem dX0_readBy_34 : decode cX0_readBy 34 = .ok (.iconst 1, 1) := by decide +kernel
theorem dX0_readBy_35 : decode cX0_readBy 35 = .ok (.goto 4, 3) := by decide +kernel
theorem dX0_readBy_38 : decode cX0_readBy 38 = .ok (.iconst 0, 1) := by decide +kernel
theorem dX0_readBy_39 : decode cX0_readBy 39 = .ok (.invokevirtual 85, 3) := by decide +kernel
theorem dX0_readBy_42 : decode cX0_readBy 42 = .ok (.istore 4, 2) := by decide +kernel
theorem dX0_readBy_44 : decode cX0_readBy 44 = .ok (.iload_n 2, 1) := by decide +kernel
theorem dX0_readBy_45 : decode cX0_readBy 45 = .ok (.iconst 4, 1) := by decide +kernel
theorem dX0_readBy_46 : decode cX0_readBy 46 = .ok (.irem, 1) := by decide +kernel
theorem dX0_readBy_47 : decode cX0_readBy 47 = .ok (.istore 5, 2) := by decide +kernel
theorem dX0_readBy_49 : decode cX0_readBy 49 = .ok (.aload_n 0, 1) := by decide +kernel
theorem dX0_readBy_50 : decode cX0_readBy 50 = .ok (.getfield 22, 3) := by decide +kernel
theorem dX0_readBy_53 : decode cX0_readBy 53 = .ok (.bipush 6, 2) := by decide +kernel
theorem dX0_readBy_55 : decode cX0_readBy 55 = .ok (.idiv, 1) := by decide +kernel
theorem dX0_readBy_56 : decode cX0_readBy 56 = .ok (.istore 6, 2) := by decide +kernel
theorem dX0_readBy_58 : decode cX0_readBy 58 = .ok (.aload_n 0, 1) := by decide +kernel
theorem dX0_readBy_59 : decode cX0_readBy 59 = .ok (.getfield 22, 3) := by decide +kernel
theorem dX0_readBy_62 : decode cX0_readBy 62 = .ok (.bipush 6, 2) := by decide +kernel
theorem dX0_readBy_64 : decode cX0_readBy 64 = .ok (.irem, 1) := by decide +kernel
theorem dX0_readBy_65 : decode cX0_readBy 65 = .ok (.istore 7, 2) := by decide +kernel
theorem dX0_readBy_67 : decode cX0_readBy 67 = .ok (.iload 5, 2) := by decide +kernel
theorem dX0_readBy_69 : decode cX0_readBy 69 = .ok (.ifCond .eq 9, 3) := by decide +kernel
theorem dX0_readBy_72 : decode cX0_readBy 72 = .ok (.iload 5, 2) := by decide +kernel
theorem dX0_readBy_74 : decode cX0_readBy 74 = .ok (.iconst 1, 1) := by decide +kernel
theorem dX0_readBy_75 : decode cX0_readBy 75 = .ok (.if_icmp .ne 24, 3) := by decide +kernel
theorem dX0_readBy_78 : decode cX0_readBy 78 = .ok (.iload 6, 2) := by decide +kernel
theorem dX0_readBy_80 : decode cX0_readBy 80 = .ok (.iload 5, 2) := by decide +kernel
theorem dX0_readBy_82 : decode cX0_readBy 82 = .ok (.ifCond .ne 9, 3) := by decide +kernel
theorem dX0_readBy_85 : decode cX0_readBy 85 = .ok (.iload 4, 2) := by decide +kernel
theorem dX0_readBy_87 : decode cX0_readBy 87 = .ok (.ineg, 1) := by decide +kernel
theorem dX0_readBy_88 : decode cX0_readBy 88 = .ok (.goto 5, 3) := by decide +kernel
theorem dX0_readBy_91 : decode cX0_readBy 91 = .ok (.iload 4, 2) := by decide +kernel
theorem dX0_readBy_93 : decode cX0_readBy 93 = .ok (.iadd, 1) := by decide +kernel
theorem dX0_readBy_94 : decode cX0_readBy 94 = .ok (.istore 6, 2) := by decide +kernel
theorem dX0_readBy_96 : decode cX0_readBy 96 = .ok (.goto 40, 3) := by decide +kernel
theorem dX0_readBy_99 : decode cX0_readBy 99 = .ok (.iload 7, 2) := by decide +kernel
theorem dX0_readBy_101 : decode cX0_readBy 101 = .ok (.iload 5, 2) := by decide +kernel
theorem dX0_readBy_103 : decode cX0_readBy 103 = .ok (.iconst 2, 1) := by decide +kernel
theorem dX0_readBy_104 : decode cX0_readBy 104 = .ok (.if_icmp .ne 7, 3) := by decide +kernel
theorem dX0_readBy_107 : decode cX0_readBy 107 = .ok (.iconst 1, 1) := by decide +kernel
theorem dX0_readBy_108 : decode cX0_readBy 108 = .ok (.goto 4, 3) := by decide +kernel
theorem dX0_readBy_111 : decode cX0_readBy 111 = .ok (.iconst 0, 1) := by decide +kernel
theorem dX0_readBy_112 : decode cX0_readBy 112 = .ok (.iload_n 1, 1) := by decide +kernel
theorem dX0_readBy_113 : decode cX0_readBy 113 = .ok (.iconst 3, 1) := by decide +kernel
theorem dX0_readBy_114 : decode cX0_readBy 114 = .ok (.if_icmp .eq 7, 3) := by decide +kernel
theorem dX0_readBy_117 : decode cX0_readBy 117 = .ok (.iconst 1, 1) := by decide +kernel
theorem dX0_readBy_118 : decode cX0_readBy 118 = .ok (.goto 4, 3) := by decide +kernel
theorem dX0_readBy_121 : decode cX0_readBy 121 = .ok (.iconst 0, 1) := by decide +kernel
theorem dX0_readBy_122 : decode cX0_readBy 122 = .ok (.if_icmp .ne 9, 3) := by decide +kernel
theorem dX0_readBy_125 : decode cX0_readBy 125 = .ok (.iload 4, 2) := by decide +kernel
theorem dX0_readBy_127 : decode cX0_readBy 127 = .ok (.ineg, 1) := by decide +kernel
theorem dX0_readBy_128 : decode cX0_readBy 128 = .ok (.goto 5, 3) := by decide +kernel
theorem dX0_readBy_131 : decode cX0_readBy 131 = .ok (.iload 4, 2) := by decide +kernel
theorem dX0_readBy_133 : decode cX0_readBy 133 = .ok (.iadd, 1) := by decide +kernel
theorem dX0_readBy_134 : decode cX0_readBy 134 = .ok (.istore 7, 2) := by decide +kernel
theorem dX0_readBy_136 : decode cX0_readBy 136 = .ok (.bipush 6, 2) := by decide +kernel
theorem dX0_readBy_138 : decode cX0_readBy 138 = .ok (.iload 6, 2) := by decide +kernel
theorem dX0_readBy_140 : decode cX0_readBy 140 = .ok (.iconst 3, 1) := by decide +kernel
theorem dX0_readBy_141 : decode cX0_readBy 141 = .ok (.invokestatic 89, 3) := by decide +kernel
theorem dX0_readBy_144 : decode cX0_readBy 144 = .ok (.imul, 1) := by decide +kernel
theorem dX0_readBy_145 : decode cX0_readBy 145 = .ok (.iload 7, 2) := by decide +kernel
theorem dX0_readBy_147 : decode cX0_readBy 147 = .ok (.iconst 5, 1) := by decide +kernel
theorem dX0_readBy_148 : decode cX0_readBy 148 = .ok (.invokestatic 89, 3) := by decide +kernel
theorem dX0_readBy_151 : decode cX0_readBy 151 = .ok (.iadd, 1) := by decide +kernel
theorem dX0_readBy_152 : decode cX0_readBy 152 = .ok (.ireturn, 1) := by decide +kernel
theorem dX0_stepsOf_0 : decode cX0_stepsOf 0 = .ok (.iload_n 2, 1) := by decide +kernel
theorem dX0_stepsOf_1 : decode cX0_stepsOf 1 = .ok (.ifCond .eq 10, 3) := by decide +kernel
theorem dX0_stepsOf_4 : decode cX0_stepsOf 4 = .ok (.aload_n 0, 1) := by decide +kernel
theorem dX0_stepsOf_5 : decode cX0_stepsOf 5 = .ok (.getfield 34, 3) := by decide +kernel
theorem dX0_stepsOf_8 : decode cX0_stepsOf 8 = .ok (.goto 7, 3) := by decide +kernel
theorem dX0_stepsOf_11 : decode cX0_stepsOf 11 = .ok (.aload_n 0, 1) := by decide +kernel
theorem dX0_stepsOf_12 : decode cX0_stepsOf 12 = .ok (.getfield 31, 3) := by decide +kernel
theorem dX0_stepsOf_15 : decode cX0_stepsOf 15 = .ok (.istore_n 3, 1) := by decide +kernel
theorem dX0_stepsOf_16 : decode cX0_stepsOf 16 = .ok (.iload_n 1, 1) := by decide +kernel
theorem dX0_stepsOf_17 : decode cX0_stepsOf 17 = .ok (.tableswitch 47 1 4 #[31, 33, 47, 37], 31) := by decide +kernel
theorem dX0_stepsOf_48 : decode cX0_stepsOf 48 = .ok (.iconst 1, 1) := by decide +kernel
theorem dX0_stepsOf_49 : decode cX0_stepsOf 49 = .ok (.ireturn, 1) := by decide +kernel
theorem dX0_stepsOf_50 : decode cX0_stepsOf 50 = .ok (.iconst 2, 1) := by decide +kernel
theorem dX0_stepsOf_51 : decode cX0_stepsOf 51 = .ok (.iload_n 3, 1) := by decide +kernel
theorem dX0_stepsOf_52 : decode cX0_stepsOf 52 = .ok (.imul, 1) := by decide +kernel
theorem dX0_stepsOf_53 : decode cX0_stepsOf 53 = .ok (.ireturn, 1) := by decide +kernel
theorem dX0_stepsOf_54 : decode cX0_stepsOf 54 = .ok (.iload_n 2, 1) := by decide +kernel
theorem dX0_stepsOf_55 : decode cX0_stepsOf 55 = .ok (.ifCond .eq 7, 3) := by decide +kernel
theorem dX0_stepsOf_58 : decode cX0_stepsOf 58 = .ok (.iload_n 3, 1) := by decide +kernel
theorem dX0_stepsOf_59 : decode cX0_stepsOf 59 = .ok (.goto 4, 3) := by decide +kernel
theorem dX0_stepsOf_62 : decode cX0_stepsOf 62 = .ok (.iconst 1, 1) := by decide +kernel
theorem dX0_stepsOf_63 : decode cX0_stepsOf 63 = .ok (.ireturn, 1) := by decide +kernel
theorem dX0_stepsOf_64 : decode cX0_stepsOf 64 = .ok (.iload_n 3, 1) := by decide +kernel
theorem dX0_stepsOf_65 : decode cX0_stepsOf 65 = .ok (.ireturn, 1) := by decide +kernel
theorem dX0_clamp_0 : decode cX0_clamp 0 = .ok (.iconst 0, 1) := by decide +kernel
theorem dX0_clamp_1 : decode cX0_clamp 1 = .ok (.iload_n 1, 1) := by decide +kernel
theorem dX0_clamp_2 : decode cX0_clamp 2 = .ok (.iload_n 0, 1) := by decide +kernel
theorem dX0_clamp_3 : decode cX0_clamp 3 = .ok (.invokestatic 54, 3) := by decide +kernel
theorem dX0_clamp_6 : decode cX0_clamp 6 = .ok (.invokestatic 92, 3) := by decide +kernel
theorem dX0_clamp_9 : decode cX0_clamp 9 = .ok (.ireturn, 1) := by decide +kernel
theorem dX0_followBy_0 : decode cX0_followBy 0 = .ok (.iconst 0, 1) := by decide +kernel
theorem dX0_followBy_1 : decode cX0_followBy 1 = .ok (.istore_n 2, 1) := by decide +kernel
theorem dX0_followBy_2 : decode cX0_followBy 2 = .ok (.iload_n 2, 1) := by decide +kernel
theorem dX0_followBy_3 : decode cX0_followBy 3 = .ok (.bipush 40, 2) := by decide +kernel
theorem dX0_followBy_5 : decode cX0_followBy 5 = .ok (.if_icmp .ge 34, 3) := by decide +kernel
theorem dX0_followBy_8 : decode cX0_followBy 8 = .ok (.aload_n 0, 1) := by decide +kernel
theorem dX0_followBy_9 : decode cX0_followBy 9 = .ok (.getfield 19, 3) := by decide +kernel
theorem dX0_followBy_12 : decode cX0_followBy 12 = .ok (.bipush 24, 2) := by decide +kernel
theorem dX0_followBy_14 : decode cX0_followBy 14 = .ok (.if_icmp .ne 5, 3) := by decide +kernel
theorem dX0_followBy_17 : decode cX0_followBy 17 = .ok (.iload_n 2, 1) := by decide +kernel
theorem dX0_followBy_18 : decode cX0_followBy 18 = .ok (.ireturn, 1) := by decide +kernel
theorem dX0_followBy_19 : decode cX0_followBy 19 = .ok (.aload_n 0, 1) := by decide +kernel
theorem dX0_followBy_20 : decode cX0_followBy 20 = .ok (.aload_n 0, 1) := by decide +kernel
theorem dX0_followBy_21 : decode cX0_followBy 21 = .ok (.iload_n 1, 1) := by decide +kernel
theorem dX0_followBy_22 : decode cX0_followBy 22 = .ok (.aload_n 0, 1) := by decide +kernel
theorem dX0_followBy_23 : decode cX0_followBy 23 = .ok (.invokevirtual 95, 3) := by decide +kernel
theorem dX0_followBy_26 : decode cX0_followBy 26 = .ok (.iload_n 2, 1) := by decide +kernel
theorem dX0_followBy_27 : decode cX0_followBy 27 = .ok (.invokevirtual 98, 3) := by decide +kernel
theorem dX0_followBy_30 : decode cX0_followBy 30 = .ok (.invokevirtual 102, 3) := by decide +kernel
theorem dX0_followBy_33 : decode cX0_followBy 33 = .ok (.iinc 2 1, 3) := by decide +kernel
theorem dX0_followBy_36 : decode cX0_followBy 36 = .ok (.goto (-34), 3) := by decide +kernel
theorem dX0_followBy_39 : decode cX0_followBy 39 = .ok (.aload_n 0, 1) := by decide +kernel
theorem dX0_followBy_40 : decode cX0_followBy 40 = .ok (.getfield 19, 3) := by decide +kernel
theorem dX0_followBy_43 : decode cX0_followBy 43 = .ok (.bipush 24, 2) := by decide +kernel
theorem dX0_followBy_45 : decode cX0_followBy 45 = .ok (.if_icmp .ne 8, 3) := by decide +kernel
theorem dX0_followBy_48 : decode cX0_followBy 48 = .ok (.bipush 40, 2) := by decide +kernel
theorem dX0_followBy_50 : decode cX0_followBy 50 = .ok (.goto 5, 3) := by decide +kernel
theorem dX0_followBy_53 : decode cX0_followBy 53 = .ok (.bipush 41, 2) := by decide +kernel
theorem dX0_followBy_55 : decode cX0_followBy 55 = .ok (.ireturn, 1) := by decide +kernel
theorem dX1_init_0 : decode cX1_init 0 = .ok (.aload_n 0, 1) := by decide +kernel
theorem dX1_init_1 : decode cX1_init 1 = .ok (.invokespecial 3, 3) := by decide +kernel
theorem dX1_init_4 : decode cX1_init 4 = .ok (.aload_n 0, 1) := by decide +kernel
theorem dX1_init_5 : decode cX1_init 5 = .ok (.bipush 8, 2) := by decide +kernel
theorem dX1_init_7 : decode cX1_init 7 = .ok (.newarray .int, 2) := by decide +kernel
theorem dX1_init_9 : decode cX1_init 9 = .ok (.putfield 9, 3) := by decide +kernel
theorem dX1_init_12 : decode cX1_init 12 = .ok (.aload_n 0, 1) := by decide +kernel
theorem dX1_init_13 : decode cX1_init 13 = .ok (.bipush 8, 2) := by decide +kernel
theorem dX1_init_15 : decode cX1_init 15 = .ok (.newarray .int, 2) := by decide +kernel
theorem dX1_init_17 : decode cX1_init 17 = .ok (.putfield 15, 3) := by decide +kernel
theorem dX1_init_20 : decode cX1_init 20 = .ok (.aload_n 0, 1) := by decide +kernel
theorem dX1_init_21 : decode cX1_init 21 = .ok (.iconst 0, 1) := by decide +kernel
theorem dX1_init_22 : decode cX1_init 22 = .ok (.putfield 18, 3) := by decide +kernel
theorem dX1_init_25 : decode cX1_init 25 = .ok (.return_, 1) := by decide +kernel
theorem dX1_add_0 : decode cX1_add 0 = .ok (.aload_n 0, 1) := by decide +kernel
theorem dX1_add_1 : decode cX1_add 1 = .ok (.getfield 18, 3) := by decide +kernel
theorem dX1_add_4 : decode cX1_add 4 = .ok (.ifCond .lt 42, 3) := by decide +kernel
theorem dX1_add_7 : decode cX1_add 7 = .ok (.aload_n 0, 1) := by decide +kernel
theorem dX1_add_8 : decode cX1_add 8 = .ok (.getfield 18, 3) := by decide +kernel
theorem dX1_add_11 : decode cX1_add 11 = .ok (.bipush 8, 2) := by decide +kernel
theorem dX1_add_13 : decode cX1_add 13 = .ok (.if_icmp .ge 33, 3) := by decide +kernel
theorem dX1_add_16 : decode cX1_add 16 = .ok (.aload_n 0, 1) := by decide +kernel
theorem dX1_add_17 : decode cX1_add 17 = .ok (.getfield 9, 3) := by decide +kernel
theorem dX1_add_20 : decode cX1_add 20 = .ok (.aload_n 0, 1) := by decide +kernel
theorem dX1_add_21 : decode cX1_add 21 = .ok (.getfield 18, 3) := by decide +kernel
theorem dX1_add_24 : decode cX1_add 24 = .ok (.iload_n 1, 1) := by decide +kernel
theorem dX1_add_25 : decode cX1_add 25 = .ok (.iastore, 1) := by decide +kernel
theorem dX1_add_26 : decode cX1_add 26 = .ok (.aload_n 0, 1) := by decide +kernel
theorem dX1_add_27 : decode cX1_add 27 = .ok (.getfield 15, 3) := by decide +kernel
theorem dX1_add_30 : decode cX1_add 30 = .ok (.aload_n 0, 1) := by decide +kernel
theorem dX1_add_31 : decode cX1_add 31 = .ok (.getfield 18, 3) := by decide +kernel
theorem dX1_add_34 : decode cX1_add 34 = .ok (.iload_n 2, 1) := by decide +kernel
theorem dX1_add_35 : decode cX1_add 35 = .ok (.iastore, 1) := by decide +kernel
theorem dX1_add_36 : decode cX1_add 36 = .ok (.aload_n 0, 1) := by decide +kernel
theorem dX1_add_37 : decode cX1_add 37 = .ok (.dup, 1) := by decide +kernel
theorem dX1_add_38 : decode cX1_add 38 = .ok (.getfield 18, 3) := by decide +kernel
theorem dX1_add_41 : decode cX1_add 41 = .ok (.iconst 1, 1) := by decide +kernel
theorem dX1_add_42 : decode cX1_add 42 = .ok (.iadd, 1) := by decide +kernel
theorem dX1_add_43 : decode cX1_add 43 = .ok (.putfield 18, 3) := by decide +kernel
theorem dX1_add_46 : decode cX1_add 46 = .ok (.aload_n 0, 1) := by decide +kernel
theorem dX1_add_47 : decode cX1_add 47 = .ok (.getfield 18, 3) := by decide +kernel
theorem dX1_add_50 : decode cX1_add 50 = .ok (.ireturn, 1) := by decide +kernel
theorem dX1_trueAt_0 : decode cX1_trueAt 0 = .ok (.iconst 0, 1) := by decide +kernel
theorem dX1_trueAt_1 : decode cX1_trueAt 1 = .ok (.istore 4, 2) := by decide +kernel
theorem dX1_trueAt_3 : decode cX1_trueAt 3 = .ok (.iconst 0, 1) := by decide +kernel
theorem dX1_trueAt_4 : decode cX1_trueAt 4 = .ok (.istore 5, 2) := by decide +kernel
theorem dX1_trueAt_6 : decode cX1_trueAt 6 = .ok (.iload 5, 2) := by decide +kernel
theorem dX1_trueAt_8 : decode cX1_trueAt 8 = .ok (.aload_n 0, 1) := by decide +kernel
theorem dX1_trueAt_9 : decode cX1_trueAt 9 = .ok (.getfield 18, 3) := by decide +kernel
theorem dX1_trueAt_12 : decode cX1_trueAt 12 = .ok (.if_icmp .ge 42, 3) := by decide +kernel
theorem dX1_trueAt_15 : decode cX1_trueAt 15 = .ok (.iload 5, 2) := by decide +kernel
theorem dX1_trueAt_17 : decode cX1_trueAt 17 = .ok (.bipush 8, 2) := by decide +kernel
theorem dX1_trueAt_19 : decode cX1_trueAt 19 = .ok (.if_icmp .ge 35, 3) := by decide +kernel
theorem dX1_trueAt_22 : decode cX1_trueAt 22 = .ok (.aload_n 0, 1) := by decide +kernel
theorem dX1_trueAt_23 : decode cX1_trueAt 23 = .ok (.getfield 9, 3) := by decide +kernel
theorem dX1_trueAt_26 : decode cX1_trueAt 26 = .ok (.iload 5, 2) := by decide +kernel
theorem dX1_trueAt_28 : decode cX1_trueAt 28 = .ok (.iaload, 1) := by decide +kernel
theorem dX1_trueAt_29 : decode cX1_trueAt 29 = .ok (.iload_n 1, 1) := by decide +kernel
theorem dX1_trueAt_30 : decode cX1_trueAt 30 = .ok (.iload_n 2, 1) := by decide +kernel
theorem dX1_trueAt_31 : decode cX1_trueAt 31 = .ok (.iload_n 3, 1) := by decide +kernel
theorem dX1_trueAt_32 : decode cX1_trueAt 32 = .ok (.invokestatic 22, 3) := by decide +kernel
theorem dX1_trueAt_35 : decode cX1_trueAt 35 = .ok (.aload_n 0, 1) := by decide +kernel
theorem dX1_trueAt_36 : decode cX1_trueAt 36 = .ok (.getfield 15, 3) := by decide +kernel
theorem dX1_trueAt_39 : decode cX1_trueAt 39 = .ok (.iload 5, 2) := by decide +kernel
theorem dX1_trueAt_41 : decode cX1_trueAt 41 = .ok (.iaload, 1) := by decide +kernel
theorem dX1_trueAt_42 : decode cX1_trueAt 42 = .ok (.if_icmp .ne 6, 3) := by decide +kernel
theorem dX1_trueAt_45 : decode cX1_trueAt 45 = .ok (.iinc 4 1, 3) := by decide +kernel
theorem dX1_trueAt_48 : decode cX1_trueAt 48 = .ok (.iinc 5 1, 3) := by decide +kernel
theorem dX1_trueAt_51 : decode cX1_trueAt 51 = .ok (.goto (-45), 3) := by decide +kernel
theorem dX1_trueAt_54 : decode cX1_trueAt 54 = .ok (.iload 4, 2) := by decide +kernel
theorem dX1_trueAt_56 : decode cX1_trueAt 56 = .ok (.ireturn, 1) := by decide +kernel
theorem dX1_cellsBy_0 : decode cX1_cellsBy 0 = .ok (.iconst 0, 1) := by decide +kernel
theorem dX1_cellsBy_1 : decode cX1_cellsBy 1 = .ok (.istore_n 3, 1) := by decide +kernel
theorem dX1_cellsBy_2 : decode cX1_cellsBy 2 = .ok (.iconst 0, 1) := by decide +kernel
theorem dX1_cellsBy_3 : decode cX1_cellsBy 3 = .ok (.istore 4, 2) := by decide +kernel
theorem dX1_cellsBy_5 : decode cX1_cellsBy 5 = .ok (.iload 4, 2) := by decide +kernel
theorem dX1_cellsBy_7 : decode cX1_cellsBy 7 = .ok (.bipush 24, 2) := by decide +kernel
theorem dX1_cellsBy_9 : decode cX1_cellsBy 9 = .ok (.if_icmp .ge 31, 3) := by decide +kernel
theorem dX1_cellsBy_12 : decode cX1_cellsBy 12 = .ok (.aload_n 0, 1) := by decide +kernel
theorem dX1_cellsBy_13 : decode cX1_cellsBy 13 = .ok (.iload 4, 2) := by decide +kernel
theorem dX1_cellsBy_15 : decode cX1_cellsBy 15 = .ok (.iload_n 1, 1) := by decide +kernel
theorem dX1_cellsBy_16 : decode cX1_cellsBy 16 = .ok (.iload_n 2, 1) := by decide +kernel
theorem dX1_cellsBy_17 : decode cX1_cellsBy 17 = .ok (.invokevirtual 26, 3) := by decide +kernel
theorem dX1_cellsBy_20 : decode cX1_cellsBy 20 = .ok (.aload_n 0, 1) := by decide +kernel
theorem dX1_cellsBy_21 : decode cX1_cellsBy 21 = .ok (.getfield 18, 3) := by decide +kernel
theorem dX1_cellsBy_24 : decode cX1_cellsBy 24 = .ok (.if_icmp .ne 10, 3) := by decide +kernel
theorem dX1_cellsBy_27 : decode cX1_cellsBy 27 = .ok (.iload_n 3, 1) := by decide +kernel
theorem dX1_cellsBy_28 : decode cX1_cellsBy 28 = .ok (.iconst 1, 1) := by decide +kernel
theorem dX1_cellsBy_29 : decode cX1_cellsBy 29 = .ok (.iload 4, 2) := by decide +kernel
theorem dX1_cellsBy_31 : decode cX1_cellsBy 31 = .ok (.ishl, 1) := by decide +kernel
theorem dX1_cellsBy_32 : decode cX1_cellsBy 32 = .ok (.ior, 1) := by decide +kernel
theorem dX1_cellsBy_33 : decode cX1_cellsBy 33 = .ok (.istore_n 3, 1) := by decide +kernel
theorem dX1_cellsBy_34 : decode cX1_cellsBy 34 = .ok (.iinc 4 1, 3) := by decide +kernel
theorem dX1_cellsBy_37 : decode cX1_cellsBy 37 = .ok (.goto (-32), 3) := by decide +kernel
theorem dX1_cellsBy_40 : decode cX1_cellsBy 40 = .ok (.iload_n 3, 1) := by decide +kernel
theorem dX1_cellsBy_41 : decode cX1_cellsBy 41 = .ok (.ireturn, 1) := by decide +kernel
theorem dX2_init_0 : decode cX2_init 0 = .ok (.aload_n 0, 1) := by decide +kernel
theorem dX2_init_1 : decode cX2_init 1 = .ok (.invokespecial 3, 3) := by decide +kernel
theorem dX2_init_4 : decode cX2_init 4 = .ok (.aload_n 0, 1) := by decide +kernel
theorem dX2_init_5 : decode cX2_init 5 = .ok (.bipush 80, 2) := by decide +kernel
theorem dX2_init_7 : decode cX2_init 7 = .ok (.newarray .int, 2) := by decide +kernel
theorem dX2_init_9 : decode cX2_init 9 = .ok (.putfield 9, 3) := by decide +kernel
theorem dX2_init_12 : decode cX2_init 12 = .ok (.aload_n 0, 1) := by decide +kernel
theorem dX2_init_13 : decode cX2_init 13 = .ok (.iconst 0, 1) := by decide +kernel
theorem dX2_init_14 : decode cX2_init 14 = .ok (.putfield 15, 3) := by decide +kernel
theorem dX2_init_17 : decode cX2_init 17 = .ok (.return_, 1) := by decide +kernel
theorem dX2_add_0 : decode cX2_add 0 = .ok (.aload_n 0, 1) := by decide +kernel
theorem dX2_add_1 : decode cX2_add 1 = .ok (.getfield 15, 3) := by decide +kernel
theorem dX2_add_4 : decode cX2_add 4 = .ok (.ifCond .lt 32, 3) := by decide +kernel
theorem dX2_add_7 : decode cX2_add 7 = .ok (.aload_n 0, 1) := by decide +kernel
theorem dX2_add_8 : decode cX2_add 8 = .ok (.getfield 15, 3) := by decide +kernel
theorem dX2_add_11 : decode cX2_add 11 = .ok (.bipush 80, 2) := by decide +kernel
theorem dX2_add_13 : decode cX2_add 13 = .ok (.if_icmp .ge 23, 3) := by decide +kernel
theorem dX2_add_16 : decode cX2_add 16 = .ok (.aload_n 0, 1) := by decide +kernel
theorem dX2_add_17 : decode cX2_add 17 = .ok (.getfield 9, 3) := by decide +kernel
theorem dX2_add_20 : decode cX2_add 20 = .ok (.aload_n 0, 1) := by decide +kernel
theorem dX2_add_21 : decode cX2_add 21 = .ok (.getfield 15, 3) := by decide +kernel
theorem dX2_add_24 : decode cX2_add 24 = .ok (.iload_n 1, 1) := by decide +kernel
theorem dX2_add_25 : decode cX2_add 25 = .ok (.iastore, 1) := by decide +kernel
theorem dX2_add_26 : decode cX2_add 26 = .ok (.aload_n 0, 1) := by decide +kernel
theorem dX2_add_27 : decode cX2_add 27 = .ok (.dup, 1) := by decide +kernel
theorem dX2_add_28 : decode cX2_add 28 = .ok (.getfield 15, 3) := by decide +kernel
theorem dX2_add_31 : decode cX2_add 31 = .ok (.iconst 1, 1) := by decide +kernel
theorem dX2_add_32 : decode cX2_add 32 = .ok (.iadd, 1) := by decide +kernel
theorem dX2_add_33 : decode cX2_add 33 = .ok (.putfield 15, 3) := by decide +kernel
theorem dX2_add_36 : decode cX2_add 36 = .ok (.aload_n 0, 1) := by decide +kernel
theorem dX2_add_37 : decode cX2_add 37 = .ok (.getfield 15, 3) := by decide +kernel
theorem dX2_add_40 : decode cX2_add 40 = .ok (.ireturn, 1) := by decide +kernel
theorem dX2_tellTo_0 : decode cX2_tellTo 0 = .ok (.aload_n 0, 1) := by decide +kernel
theorem dX2_tellTo_1 : decode cX2_tellTo 1 = .ok (.invokevirtual 19, 3) := by decide +kernel
theorem dX2_tellTo_4 : decode cX2_tellTo 4 = .ok (.istore_n 2, 1) := by decide +kernel
theorem dX2_tellTo_5 : decode cX2_tellTo 5 = .ok (.iload_n 2, 1) := by decide +kernel
theorem dX2_tellTo_6 : decode cX2_tellTo 6 = .ok (.ifCond .lt 9, 3) := by decide +kernel
theorem dX2_tellTo_9 : decode cX2_tellTo 9 = .ok (.sipush (-1000), 3) := by decide +kernel
theorem dX2_tellTo_12 : decode cX2_tellTo 12 = .ok (.iload_n 2, 1) := by decide +kernel
theorem dX2_tellTo_13 : decode cX2_tellTo 13 = .ok (.isub, 1) := by decide +kernel
theorem dX2_tellTo_14 : decode cX2_tellTo 14 = .ok (.ireturn, 1) := by decide +kernel
theorem dX2_tellTo_15 : decode cX2_tellTo 15 = .ok (.iconst 0, 1) := by decide +kernel
theorem dX2_tellTo_16 : decode cX2_tellTo 16 = .ok (.istore_n 3, 1) := by decide +kernel
theorem dX2_tellTo_17 : decode cX2_tellTo 17 = .ok (.iconst 0, 1) := by decide +kernel
theorem dX2_tellTo_18 : decode cX2_tellTo 18 = .ok (.istore 4, 2) := by decide +kernel
theorem dX2_tellTo_20 : decode cX2_tellTo 20 = .ok (.iconst 0, 1) := by decide +kernel
theorem dX2_tellTo_21 : decode cX2_tellTo 21 = .ok (.istore 5, 2) := by decide +kernel
theorem dX2_tellTo_23 : decode cX2_tellTo 23 = .ok (.iload 5, 2) := by decide +kernel
theorem dX2_tellTo_25 : decode cX2_tellTo 25 = .ok (.bipush 80, 2) := by decide +kernel
theorem dX2_tellTo_27 : decode cX2_tellTo 27 = .ok (.if_icmp .ge 61, 3) := by decide +kernel
theorem dX2_tellTo_30 : decode cX2_tellTo 30 = .ok (.iload 4, 2) := by decide +kernel
theorem dX2_tellTo_32 : decode cX2_tellTo 32 = .ok (.aload_n 0, 1) := by decide +kernel
theorem dX2_tellTo_33 : decode cX2_tellTo 33 = .ok (.getfield 15, 3) := by decide +kernel
theorem dX2_tellTo_36 : decode cX2_tellTo 36 = .ok (.if_icmp .ge 52, 3) := by decide +kernel
theorem dX2_tellTo_39 : decode cX2_tellTo 39 = .ok (.aload_n 1, 1) := by decide +kernel
theorem dX2_tellTo_40 : decode cX2_tellTo 40 = .ok (.ifnull 13, 3) := by decide +kernel
theorem dX2_tellTo_43 : decode cX2_tellTo 43 = .ok (.aload_n 0, 1) := by decide +kernel
theorem dX2_tellTo_44 : decode cX2_tellTo 44 = .ok (.aload_n 1, 1) := by decide +kernel
theorem dX2_tellTo_45 : decode cX2_tellTo 45 = .ok (.iload 4, 2) := by decide +kernel
theorem dX2_tellTo_47 : decode cX2_tellTo 47 = .ok (.invokevirtual 23, 3) := by decide +kernel
theorem dX2_tellTo_50 : decode cX2_tellTo 50 = .ok (.ifCond .ne 10, 3) := by decide +kernel
theorem dX2_tellTo_53 : decode cX2_tellTo 53 = .ok (.sipush (-2000), 3) := by decide +kernel
theorem dX2_tellTo_56 : decode cX2_tellTo 56 = .ok (.iload 4, 2) := by decide +kernel
theorem dX2_tellTo_58 : decode cX2_tellTo 58 = .ok (.isub, 1) := by decide +kernel
theorem dX2_tellTo_59 : decode cX2_tellTo 59 = .ok (.ireturn, 1) := by decide +kernel
theorem dX2_tellTo_60 : decode cX2_tellTo 60 = .ok (.iload 4, 2) := by decide +kernel
theorem dX2_tellTo_62 : decode cX2_tellTo 62 = .ok (.iconst 1, 1) := by decide +kernel
theorem dX2_tellTo_63 : decode cX2_tellTo 63 = .ok (.aload_n 0, 1) := by decide +kernel
theorem dX2_tellTo_64 : decode cX2_tellTo 64 = .ok (.iload 4, 2) := by decide +kernel
theorem dX2_tellTo_66 : decode cX2_tellTo 66 = .ok (.invokevirtual 27, 3) := by decide +kernel
theorem dX2_tellTo_69 : decode cX2_tellTo 69 = .ok (.invokestatic 31, 3) := by decide +kernel
theorem dX2_tellTo_72 : decode cX2_tellTo 72 = .ok (.invokevirtual 35, 3) := by decide +kernel
theorem dX2_tellTo_75 : decode cX2_tellTo 75 = .ok (.iadd, 1) := by decide +kernel
theorem dX2_tellTo_76 : decode cX2_tellTo 76 = .ok (.iadd, 1) := by decide +kernel
theorem dX2_tellTo_77 : decode cX2_tellTo 77 = .ok (.istore 4, 2) := by decide +kernel
theorem dX2_tellTo_79 : decode cX2_tellTo 79 = .ok (.iinc 3 1, 3) := by decide +kernel
theorem dX2_tellTo_82 : decode cX2_tellTo 82 = .ok (.iinc 5 1, 3) := by decide +kernel
theorem dX2_tellTo_85 : decode cX2_tellTo 85 = .ok (.goto (-62), 3) := by decide +kernel
theorem dX2_tellTo_88 : decode cX2_tellTo 88 = .ok (.iload_n 3, 1) := by decide +kernel
theorem dX2_tellTo_89 : decode cX2_tellTo 89 = .ok (.ireturn, 1) := by decide +kernel
theorem dX2_firstWrong_0 : decode cX2_firstWrong 0 = .ok (.aload_n 0, 1) := by decide +kernel
theorem dX2_firstWrong_1 : decode cX2_firstWrong 1 = .ok (.getfield 15, 3) := by decide +kernel
theorem dX2_firstWrong_4 : decode cX2_firstWrong 4 = .ok (.ifCond .ne 5, 3) := by decide +kernel
theorem dX2_firstWrong_7 : decode cX2_firstWrong 7 = .ok (.iconst 0, 1) := by decide +kernel
theorem dX2_firstWrong_8 : decode cX2_firstWrong 8 = .ok (.ireturn, 1) := by decide +kernel
theorem dX2_firstWrong_9 : decode cX2_firstWrong 9 = .ok (.iconst 0, 1) := by decide +kernel
theorem dX2_firstWrong_10 : decode cX2_firstWrong 10 = .ok (.istore_n 1, 1) := by decide +kernel
theorem dX2_firstWrong_11 : decode cX2_firstWrong 11 = .ok (.iconst 0, 1) := by decide +kernel
theorem dX2_firstWrong_12 : decode cX2_firstWrong 12 = .ok (.istore_n 2, 1) := by decide +kernel
theorem dX2_firstWrong_13 : decode cX2_firstWrong 13 = .ok (.iload_n 2, 1) := by decide +kernel
theorem dX2_firstWrong_14 : decode cX2_firstWrong 14 = .ok (.bipush 80, 2) := by decide +kernel
theorem dX2_firstWrong_16 : decode cX2_firstWrong 16 = .ok (.if_icmp .ge 78, 3) := by decide +kernel
theorem dX2_firstWrong_19 : decode cX2_firstWrong 19 = .ok (.iload_n 1, 1) := by decide +kernel
theorem dX2_firstWrong_20 : decode cX2_firstWrong 20 = .ok (.aload_n 0, 1) := by decide +kernel
theorem dX2_firstWrong_21 : decode cX2_firstWrong 21 = .ok (.getfield 15, 3) := by decide +kernel
theorem dX2_firstWrong_24 : decode cX2_firstWrong 24 = .ok (.if_icmp .ge 70, 3) := by decide +kernel
theorem dX2_firstWrong_27 : decode cX2_firstWrong 27 = .ok (.aload_n 0, 1) := by decide +kernel
theorem dX2_firstWrong_28 : decode cX2_firstWrong 28 = .ok (.iload_n 1, 1) := by decide +kernel
theorem dX2_firstWrong_29 : decode cX2_firstWrong 29 = .ok (.invokevirtual 27, 3) := by decide +kernel
theorem dX2_firstWrong_32 : decode cX2_firstWrong 32 = .ok (.invokestatic 31, 3) := by decide +kernel
theorem dX2_firstWrong_35 : decode cX2_firstWrong 35 = .ok (.astore_n 3, 1) := by decide +kernel
theorem dX2_firstWrong_36 : decode cX2_firstWrong 36 = .ok (.aload_n 3, 1) := by decide +kernel
theorem dX2_firstWrong_37 : decode cX2_firstWrong 37 = .ok (.invokevirtual 40, 3) := by decide +kernel
theorem dX2_firstWrong_40 : decode cX2_firstWrong 40 = .ok (.ifCond .eq 5, 3) := by decide +kernel
theorem dX2_firstWrong_43 : decode cX2_firstWrong 43 = .ok (.iload_n 1, 1) := by decide +kernel
theorem dX2_firstWrong_44 : decode cX2_firstWrong 44 = .ok (.ireturn, 1) := by decide +kernel
theorem dX2_firstWrong_45 : decode cX2_firstWrong 45 = .ok (.iconst 0, 1) := by decide +kernel
theorem dX2_firstWrong_46 : decode cX2_firstWrong 46 = .ok (.istore 4, 2) := by decide +kernel
theorem dX2_firstWrong_48 : decode cX2_firstWrong 48 = .ok (.iload 4, 2) := by decide +kernel
theorem dX2_firstWrong_50 : decode cX2_firstWrong 50 = .ok (.aload_n 3, 1) := by decide +kernel
theorem dX2_firstWrong_51 : decode cX2_firstWrong 51 = .ok (.invokevirtual 35, 3) := by decide +kernel
theorem dX2_firstWrong_54 : decode cX2_firstWrong 54 = .ok (.if_icmp .ge 31, 3) := by decide +kernel
theorem dX2_firstWrong_57 : decode cX2_firstWrong 57 = .ok (.iinc 1 1, 3) := by decide +kernel
theorem dX2_firstWrong_60 : decode cX2_firstWrong 60 = .ok (.aload_n 3, 1) := by decide +kernel
theorem dX2_firstWrong_61 : decode cX2_firstWrong 61 = .ok (.iload 4, 2) := by decide +kernel
theorem dX2_firstWrong_63 : decode cX2_firstWrong 63 = .ok (.invokevirtual 44, 3) := by decide +kernel
theorem dX2_firstWrong_66 : decode cX2_firstWrong 66 = .ok (.aload_n 0, 1) := by decide +kernel
theorem dX2_firstWrong_67 : decode cX2_firstWrong 67 = .ok (.iload_n 1, 1) := by decide +kernel
theorem dX2_firstWrong_68 : decode cX2_firstWrong 68 = .ok (.invokevirtual 27, 3) := by decide +kernel
theorem dX2_firstWrong_71 : decode cX2_firstWrong 71 = .ok (.invokestatic 48, 3) := by decide +kernel
theorem dX2_firstWrong_74 : decode cX2_firstWrong 74 = .ok (.ifCond .ne 5, 3) := by decide +kernel
theorem dX2_firstWrong_77 : decode cX2_firstWrong 77 = .ok (.iload_n 1, 1) := by decide +kernel
theorem dX2_firstWrong_78 : decode cX2_firstWrong 78 = .ok (.ireturn, 1) := by decide +kernel
theorem dX2_firstWrong_79 : decode cX2_firstWrong 79 = .ok (.iinc 4 1, 3) := by decide +kernel
theorem dX2_firstWrong_82 : decode cX2_firstWrong 82 = .ok (.goto (-34), 3) := by decide +kernel
theorem dX2_firstWrong_85 : decode cX2_firstWrong 85 = .ok (.iinc 1 1, 3) := by decide +kernel
theorem dX2_firstWrong_88 : decode cX2_firstWrong 88 = .ok (.iinc 2 1, 3) := by decide +kernel
theorem dX2_firstWrong_91 : decode cX2_firstWrong 91 = .ok (.goto (-78), 3) := by decide +kernel
theorem dX2_firstWrong_94 : decode cX2_firstWrong 94 = .ok (.iconst (-1), 1) := by decide +kernel
theorem dX2_firstWrong_95 : decode cX2_firstWrong 95 = .ok (.ireturn, 1) := by decide +kernel
theorem dX2_shapeOf_0 : decode cX2_shapeOf 0 = .ok (.iload_n 0, 1) := by decide +kernel
theorem dX2_shapeOf_1 : decode cX2_shapeOf 1 = .ok (.tableswitch 75 104 115 #[66, 63, 75, 75, 75, 69, 75, 66, 75, 75, 75, 72], 63) := by decide +kernel
theorem dX2_shapeOf_64 : decode cX2_shapeOf 64 = .ok (.ldc 52, 2) := by decide +kernel
theorem dX2_shapeOf_66 : decode cX2_shapeOf 66 = .ok (.areturn, 1) := by decide +kernel
theorem dX2_shapeOf_67 : decode cX2_shapeOf 67 = .ok (.ldc 54, 2) := by decide +kernel
theorem dX2_shapeOf_69 : decode cX2_shapeOf 69 = .ok (.areturn, 1) := by decide +kernel
theorem dX2_shapeOf_70 : decode cX2_shapeOf 70 = .ok (.ldc 56, 2) := by decide +kernel
theorem dX2_shapeOf_72 : decode cX2_shapeOf 72 = .ok (.areturn, 1) := by decide +kernel
theorem dX2_shapeOf_73 : decode cX2_shapeOf 73 = .ok (.ldc 58, 2) := by decide +kernel
theorem dX2_shapeOf_75 : decode cX2_shapeOf 75 = .ok (.areturn, 1) := by decide +kernel
theorem dX2_shapeOf_76 : decode cX2_shapeOf 76 = .ok (.ldc 60, 2) := by decide +kernel
theorem dX2_shapeOf_78 : decode cX2_shapeOf 78 = .ok (.areturn, 1) := by decide +kernel
theorem dX2_fits_0 : decode cX2_fits 0 = .ok (.iload_n 0, 1) := by decide +kernel
theorem dX2_fits_1 : decode cX2_fits 1 = .ok (.lookupswitch 65 #[(100, 47), (107, 27)], 27) := by decide +kernel
theorem dX2_fits_28 : decode cX2_fits 28 = .ok (.iload_n 1, 1) := by decide +kernel
theorem dX2_fits_29 : decode cX2_fits 29 = .ok (.ifCond .lt 17, 3) := by decide +kernel
theorem dX2_fits_32 : decode cX2_fits 32 = .ok (.ldc 62, 2) := by decide +kernel
theorem dX2_fits_34 : decode cX2_fits 34 = .ok (.iload_n 1, 1) := by decide +kernel
theorem dX2_fits_35 : decode cX2_fits 35 = .ok (.i2c, 1) := by decide +kernel
theorem dX2_fits_36 : decode cX2_fits 36 = .ok (.invokevirtual 64, 3) := by decide +kernel
theorem dX2_fits_39 : decode cX2_fits 39 = .ok (.ifCond .lt 7, 3) := by decide +kernel
theorem dX2_fits_42 : decode cX2_fits 42 = .ok (.iconst 1, 1) := by decide +kernel
theorem dX2_fits_43 : decode cX2_fits 43 = .ok (.goto 4, 3) := by decide +kernel
theorem dX2_fits_46 : decode cX2_fits 46 = .ok (.iconst 0, 1) := by decide +kernel
theorem dX2_fits_47 : decode cX2_fits 47 = .ok (.ireturn, 1) := by decide +kernel
theorem dX2_fits_48 : decode cX2_fits 48 = .ok (.iload_n 1, 1) := by decide +kernel
theorem dX2_fits_49 : decode cX2_fits 49 = .ok (.bipush 48, 2) := by decide +kernel
theorem dX2_fits_51 : decode cX2_fits 51 = .ok (.if_icmp .lt 13, 3) := by decide +kernel
theorem dX2_fits_54 : decode cX2_fits 54 = .ok (.iload_n 1, 1) := by decide +kernel
theorem dX2_fits_55 : decode cX2_fits 55 = .ok (.bipush 57, 2) := by decide +kernel
theorem dX2_fits_57 : decode cX2_fits 57 = .ok (.if_icmp .gt 7, 3) := by decide +kernel
theorem dX2_fits_60 : decode cX2_fits 60 = .ok (.iconst 1, 1) := by decide +kernel
theorem dX2_fits_61 : decode cX2_fits 61 = .ok (.goto 4, 3) := by decide +kernel
theorem dX2_fits_64 : decode cX2_fits 64 = .ok (.iconst 0, 1) := by decide +kernel
theorem dX2_fits_65 : decode cX2_fits 65 = .ok (.ireturn, 1) := by decide +kernel
theorem dX2_fits_66 : decode cX2_fits 66 = .ok (.iload_n 1, 1) := by decide +kernel
theorem dX2_fits_67 : decode cX2_fits 67 = .ok (.iload_n 0, 1) := by decide +kernel
theorem dX2_fits_68 : decode cX2_fits 68 = .ok (.if_icmp .ne 7, 3) := by decide +kernel
theorem dX2_fits_71 : decode cX2_fits 71 = .ok (.iconst 1, 1) := by decide +kernel
theorem dX2_fits_72 : decode cX2_fits 72 = .ok (.goto 4, 3) := by decide +kernel
theorem dX2_fits_75 : decode cX2_fits 75 = .ok (.iconst 0, 1) := by decide +kernel
theorem dX2_fits_76 : decode cX2_fits 76 = .ok (.ireturn, 1) := by decide +kernel
theorem dX2_letterAt_0 : decode cX2_letterAt 0 = .ok (.iload_n 1, 1) := by decide +kernel
theorem dX2_letterAt_1 : decode cX2_letterAt 1 = .ok (.ifCond .lt 26, 3) := by decide +kernel
theorem dX2_letterAt_4 : decode cX2_letterAt 4 = .ok (.iload_n 1, 1) := by decide +kernel
theorem dX2_letterAt_5 : decode cX2_letterAt 5 = .ok (.aload_n 0, 1) := by decide +kernel
theorem dX2_letterAt_6 : decode cX2_letterAt 6 = .ok (.getfield 15, 3) := by decide +kernel
theorem dX2_letterAt_9 : decode cX2_letterAt 9 = .ok (.if_icmp .ge 18, 3) := by decide +kernel
theorem dX2_letterAt_12 : decode cX2_letterAt 12 = .ok (.iload_n 1, 1) := by decide +kernel
theorem dX2_letterAt_13 : decode cX2_letterAt 13 = .ok (.bipush 80, 2) := by decide +kernel
theorem dX2_letterAt_15 : decode cX2_letterAt 15 = .ok (.if_icmp .ge 12, 3) := by decide +kernel
theorem dX2_letterAt_18 : decode cX2_letterAt 18 = .ok (.aload_n 0, 1) := by decide +kernel
theorem dX2_letterAt_19 : decode cX2_letterAt 19 = .ok (.getfield 9, 3) := by decide +kernel
theorem dX2_letterAt_22 : decode cX2_letterAt 22 = .ok (.iload_n 1, 1) := by decide +kernel
theorem dX2_letterAt_23 : decode cX2_letterAt 23 = .ok (.iaload, 1) := by decide +kernel
theorem dX2_letterAt_24 : decode cX2_letterAt 24 = .ok (.goto 4, 3) := by decide +kernel
theorem dX2_letterAt_27 : decode cX2_letterAt 27 = .ok (.iconst (-1), 1) := by decide +kernel
theorem dX2_letterAt_28 : decode cX2_letterAt 28 = .ok (.ireturn, 1) := by decide +kernel
theorem dX2_digitAt_0 : decode cX2_digitAt 0 = .ok (.aload_n 0, 1) := by decide +kernel
theorem dX2_digitAt_1 : decode cX2_digitAt 1 = .ok (.iload_n 1, 1) := by decide +kernel
theorem dX2_digitAt_2 : decode cX2_digitAt 2 = .ok (.invokevirtual 27, 3) := by decide +kernel
theorem dX2_digitAt_5 : decode cX2_digitAt 5 = .ok (.bipush 48, 2) := by decide +kernel
theorem dX2_digitAt_7 : decode cX2_digitAt 7 = .ok (.isub, 1) := by decide +kernel
theorem dX2_digitAt_8 : decode cX2_digitAt 8 = .ok (.ireturn, 1) := by decide +kernel
theorem dX2_cellAt_0 : decode cX2_cellAt 0 = .ok (.bipush 10, 2) := by decide +kernel
theorem dX2_cellAt_2 : decode cX2_cellAt 2 = .ok (.aload_n 0, 1) := by decide +kernel
theorem dX2_cellAt_3 : decode cX2_cellAt 3 = .ok (.iload_n 1, 1) := by decide +kernel
theorem dX2_cellAt_4 : decode cX2_cellAt 4 = .ok (.invokevirtual 67, 3) := by decide +kernel
theorem dX2_cellAt_7 : decode cX2_cellAt 7 = .ok (.imul, 1) := by decide +kernel
theorem dX2_cellAt_8 : decode cX2_cellAt 8 = .ok (.aload_n 0, 1) := by decide +kernel
theorem dX2_cellAt_9 : decode cX2_cellAt 9 = .ok (.iload_n 1, 1) := by decide +kernel
theorem dX2_cellAt_10 : decode cX2_cellAt 10 = .ok (.iconst 1, 1) := by decide +kernel
theorem dX2_cellAt_11 : decode cX2_cellAt 11 = .ok (.iadd, 1) := by decide +kernel
theorem dX2_cellAt_12 : decode cX2_cellAt 12 = .ok (.invokevirtual 67, 3) := by decide +kernel
theorem dX2_cellAt_15 : decode cX2_cellAt 15 = .ok (.iadd, 1) := by decide +kernel
theorem dX2_cellAt_16 : decode cX2_cellAt 16 = .ok (.ireturn, 1) := by decide +kernel
theorem dX2_tellOne_0 : decode cX2_tellOne 0 = .ok (.aload_n 0, 1) := by decide +kernel
theorem dX2_tellOne_1 : decode cX2_tellOne 1 = .ok (.iload_n 2, 1) := by decide +kernel
theorem dX2_tellOne_2 : decode cX2_tellOne 2 = .ok (.invokevirtual 27, 3) := by decide +kernel
theorem dX2_tellOne_5 : decode cX2_tellOne 5 = .ok (.lookupswitch 118 #[(104, 68), (105, 43), (109, 94), (115, 106)], 43) := by decide +kernel
theorem dX2_tellOne_48 : decode cX2_tellOne 48 = .ok (.aload_n 1, 1) := by decide +kernel
theorem dX2_tellOne_49 : decode cX2_tellOne 49 = .ok (.ldc 62, 2) := by decide +kernel
theorem dX2_tellOne_51 : decode cX2_tellOne 51 = .ok (.aload_n 0, 1) := by decide +kernel
theorem dX2_tellOne_52 : decode cX2_tellOne 52 = .ok (.iload_n 2, 1) := by decide +kernel
theorem dX2_tellOne_53 : decode cX2_tellOne 53 = .ok (.iconst 1, 1) := by decide +kernel
theorem dX2_tellOne_54 : decode cX2_tellOne 54 = .ok (.iadd, 1) := by decide +kernel
theorem dX2_tellOne_55 : decode cX2_tellOne 55 = .ok (.invokevirtual 27, 3) := by decide +kernel
theorem dX2_tellOne_58 : decode cX2_tellOne 58 = .ok (.i2c, 1) := by decide +kernel
theorem dX2_tellOne_59 : decode cX2_tellOne 59 = .ok (.invokevirtual 64, 3) := by decide +kernel
theorem dX2_tellOne_62 : decode cX2_tellOne 62 = .ok (.aload_n 0, 1) := by decide +kernel
theorem dX2_tellOne_63 : decode cX2_tellOne 63 = .ok (.iload_n 2, 1) := by decide +kernel
theorem dX2_tellOne_64 : decode cX2_tellOne 64 = .ok (.iconst 2, 1) := by decide +kernel
theorem dX2_tellOne_65 : decode cX2_tellOne 65 = .ok (.iadd, 1) := by decide +kernel
theorem dX2_tellOne_66 : decode cX2_tellOne 66 = .ok (.invokevirtual 70, 3) := by decide +kernel
theorem dX2_tellOne_69 : decode cX2_tellOne 69 = .ok (.invokestatic 73, 3) := by decide +kernel
theorem dX2_tellOne_72 : decode cX2_tellOne 72 = .ok (.ireturn, 1) := by decide +kernel
theorem dX2_tellOne_73 : decode cX2_tellOne 73 = .ok (.aload_n 1, 1) := by decide +kernel
theorem dX2_tellOne_74 : decode cX2_tellOne 74 = .ok (.aload_n 0, 1) := by decide +kernel
theorem dX2_tellOne_75 : decode cX2_tellOne 75 = .ok (.iload_n 2, 1) := by decide +kernel
theorem dX2_tellOne_76 : decode cX2_tellOne 76 = .ok (.iconst 1, 1) := by decide +kernel
theorem dX2_tellOne_77 : decode cX2_tellOne 77 = .ok (.iadd, 1) := by decide +kernel
theorem dX2_tellOne_78 : decode cX2_tellOne 78 = .ok (.invokevirtual 67, 3) := by decide +kernel
theorem dX2_tellOne_81 : decode cX2_tellOne 81 = .ok (.aload_n 0, 1) := by decide +kernel
theorem dX2_tellOne_82 : decode cX2_tellOne 82 = .ok (.iload_n 2, 1) := by decide +kernel
theorem dX2_tellOne_83 : decode cX2_tellOne 83 = .ok (.iconst 2, 1) := by decide +kernel
theorem dX2_tellOne_84 : decode cX2_tellOne 84 = .ok (.iadd, 1) := by decide +kernel
theorem dX2_tellOne_85 : decode cX2_tellOne 85 = .ok (.invokevirtual 67, 3) := by decide +kernel
theorem dX2_tellOne_88 : decode cX2_tellOne 88 = .ok (.aload_n 0, 1) := by decide +kernel
theorem dX2_tellOne_89 : decode cX2_tellOne 89 = .ok (.iload_n 2, 1) := by decide +kernel
theorem dX2_tellOne_90 : decode cX2_tellOne 90 = .ok (.iconst 3, 1) := by decide +kernel
theorem dX2_tellOne_91 : decode cX2_tellOne 91 = .ok (.iadd, 1) := by decide +kernel
theorem dX2_tellOne_92 : decode cX2_tellOne 92 = .ok (.invokevirtual 67, 3) := by decide +kernel
theorem dX2_tellOne_95 : decode cX2_tellOne 95 = .ok (.invokestatic 77, 3) := by decide +kernel
theorem dX2_tellOne_98 : decode cX2_tellOne 98 = .ok (.ireturn, 1) := by decide +kernel
theorem dX2_tellOne_99 : decode cX2_tellOne 99 = .ok (.aload_n 1, 1) := by decide +kernel
theorem dX2_tellOne_100 : decode cX2_tellOne 100 = .ok (.aload_n 0, 1) := by decide +kernel
theorem dX2_tellOne_101 : decode cX2_tellOne 101 = .ok (.iload_n 2, 1) := by decide +kernel
theorem dX2_tellOne_102 : decode cX2_tellOne 102 = .ok (.iconst 1, 1) := by decide +kernel
theorem dX2_tellOne_103 : decode cX2_tellOne 103 = .ok (.iadd, 1) := by decide +kernel
theorem dX2_tellOne_104 : decode cX2_tellOne 104 = .ok (.invokevirtual 67, 3) := by decide +kernel
theorem dX2_tellOne_107 : decode cX2_tellOne 107 = .ok (.invokestatic 81, 3) := by decide +kernel
theorem dX2_tellOne_110 : decode cX2_tellOne 110 = .ok (.ireturn, 1) := by decide +kernel
theorem dX2_tellOne_111 : decode cX2_tellOne 111 = .ok (.aload_n 1, 1) := by decide +kernel
theorem dX2_tellOne_112 : decode cX2_tellOne 112 = .ok (.aload_n 0, 1) := by decide +kernel
theorem dX2_tellOne_113 : decode cX2_tellOne 113 = .ok (.iload_n 2, 1) := by decide +kernel
theorem dX2_tellOne_114 : decode cX2_tellOne 114 = .ok (.iconst 1, 1) := by decide +kernel
theorem dX2_tellOne_115 : decode cX2_tellOne 115 = .ok (.iadd, 1) := by decide +kernel
theorem dX2_tellOne_116 : decode cX2_tellOne 116 = .ok (.invokevirtual 70, 3) := by decide +kernel
theorem dX2_tellOne_119 : decode cX2_tellOne 119 = .ok (.invokestatic 84, 3) := by decide +kernel
theorem dX2_tellOne_122 : decode cX2_tellOne 122 = .ok (.ireturn, 1) := by decide +kernel
theorem dX2_tellOne_123 : decode cX2_tellOne 123 = .ok (.aload_n 1, 1) := by decide +kernel
theorem dX2_tellOne_124 : decode cX2_tellOne 124 = .ok (.aload_n 0, 1) := by decide +kernel
theorem dX2_tellOne_125 : decode cX2_tellOne 125 = .ok (.iload_n 2, 1) := by decide +kernel
theorem dX2_tellOne_126 : decode cX2_tellOne 126 = .ok (.iconst 1, 1) := by decide +kernel
theorem dX2_tellOne_127 : decode cX2_tellOne 127 = .ok (.iadd, 1) := by decide +kernel
theorem dX2_tellOne_128 : decode cX2_tellOne 128 = .ok (.invokevirtual 70, 3) := by decide +kernel
theorem dX2_tellOne_131 : decode cX2_tellOne 131 = .ok (.aload_n 0, 1) := by decide +kernel
theorem dX2_tellOne_132 : decode cX2_tellOne 132 = .ok (.iload_n 2, 1) := by decide +kernel
theorem dX2_tellOne_133 : decode cX2_tellOne 133 = .ok (.iconst 3, 1) := by decide +kernel
theorem dX2_tellOne_134 : decode cX2_tellOne 134 = .ok (.iadd, 1) := by decide +kernel
theorem dX2_tellOne_135 : decode cX2_tellOne 135 = .ok (.invokevirtual 67, 3) := by decide +kernel
theorem dX2_tellOne_138 : decode cX2_tellOne 138 = .ok (.invokestatic 87, 3) := by decide +kernel
theorem dX2_tellOne_141 : decode cX2_tellOne 141 = .ok (.ireturn, 1) := by decide +kernel
theorem dX2_tellItch_0 : decode cX2_tellItch 0 = .ok (.iload_n 1, 1) := by decide +kernel
theorem dX2_tellItch_1 : decode cX2_tellItch 1 = .ok (.bipush 6, 2) := by decide +kernel
theorem dX2_tellItch_3 : decode cX2_tellItch 3 = .ok (.invokestatic 90, 3) := by decide +kernel
theorem dX2_tellItch_6 : decode cX2_tellItch 6 = .ok (.ifCond .ne 10, 3) := by decide +kernel
theorem dX2_tellItch_9 : decode cX2_tellItch 9 = .ok (.iload_n 2, 1) := by decide +kernel
theorem dX2_tellItch_10 : decode cX2_tellItch 10 = .ok (.invokestatic 93, 3) := by decide +kernel
theorem dX2_tellItch_13 : decode cX2_tellItch 13 = .ok (.ifCond .eq 5, 3) := by decide +kernel
theorem dX2_tellItch_16 : decode cX2_tellItch 16 = .ok (.iconst 0, 1) := by decide +kernel
theorem dX2_tellItch_17 : decode cX2_tellItch 17 = .ok (.ireturn, 1) := by decide +kernel
theorem dX2_tellItch_18 : decode cX2_tellItch 18 = .ok (.aload_n 0, 1) := by decide +kernel
theorem dX2_tellItch_19 : decode cX2_tellItch 19 = .ok (.iload_n 1, 1) := by decide +kernel
theorem dX2_tellItch_20 : decode cX2_tellItch 20 = .ok (.putfield 97, 3) := by decide +kernel
theorem dX2_tellItch_23 : decode cX2_tellItch 23 = .ok (.aload_n 0, 1) := by decide +kernel
theorem dX2_tellItch_24 : decode cX2_tellItch 24 = .ok (.iload_n 2, 1) := by decide +kernel
theorem dX2_tellItch_25 : decode cX2_tellItch 25 = .ok (.putfield 102, 3) := by decide +kernel
theorem dX2_tellItch_28 : decode cX2_tellItch 28 = .ok (.iconst 1, 1) := by decide +kernel
theorem dX2_tellItch_29 : decode cX2_tellItch 29 = .ok (.ireturn, 1) := by decide +kernel
theorem dX2_tellHe_0 : decode cX2_tellHe 0 = .ok (.iload_n 1, 1) := by decide +kernel
theorem dX2_tellHe_1 : decode cX2_tellHe 1 = .ok (.iconst 0, 1) := by decide +kernel
theorem dX2_tellHe_2 : decode cX2_tellHe 2 = .ok (.iconst 1, 1) := by decide +kernel
theorem dX2_tellHe_3 : decode cX2_tellHe 3 = .ok (.invokestatic 105, 3) := by decide +kernel
theorem dX2_tellHe_6 : decode cX2_tellHe 6 = .ok (.ifCond .eq 25, 3) := by decide +kernel
theorem dX2_tellHe_9 : decode cX2_tellHe 9 = .ok (.iload_n 2, 1) := by decide +kernel
theorem dX2_tellHe_10 : decode cX2_tellHe 10 = .ok (.iconst 1, 1) := by decide +kernel
theorem dX2_tellHe_11 : decode cX2_tellHe 11 = .ok (.iconst 3, 1) := by decide +kernel
theorem dX2_tellHe_12 : decode cX2_tellHe 12 = .ok (.invokestatic 105, 3) := by decide +kernel
theorem dX2_tellHe_15 : decode cX2_tellHe 15 = .ok (.ifCond .eq 16, 3) := by decide +kernel
theorem dX2_tellHe_18 : decode cX2_tellHe 18 = .ok (.iload_n 3, 1) := by decide +kernel
theorem dX2_tellHe_19 : decode cX2_tellHe 19 = .ok (.iconst 2, 1) := by decide +kernel
theorem dX2_tellHe_20 : decode cX2_tellHe 20 = .ok (.iconst 5, 1) := by decide +kernel
theorem dX2_tellHe_21 : decode cX2_tellHe 21 = .ok (.invokestatic 105, 3) := by decide +kernel
theorem dX2_tellHe_24 : decode cX2_tellHe 24 = .ok (.ifCond .eq 7, 3) := by decide +kernel
theorem dX2_tellHe_27 : decode cX2_tellHe 27 = .ok (.iconst 1, 1) := by decide +kernel
theorem dX2_tellHe_28 : decode cX2_tellHe 28 = .ok (.goto 4, 3) := by decide +kernel
theorem dX2_tellHe_31 : decode cX2_tellHe 31 = .ok (.iconst 0, 1) := by decide +kernel
theorem dX2_tellHe_32 : decode cX2_tellHe 32 = .ok (.istore 4, 2) := by decide +kernel
theorem dX2_tellHe_34 : decode cX2_tellHe 34 = .ok (.iload 4, 2) := by decide +kernel
theorem dX2_tellHe_36 : decode cX2_tellHe 36 = .ok (.ifCond .eq 18, 3) := by decide +kernel
theorem dX2_tellHe_39 : decode cX2_tellHe 39 = .ok (.aload_n 0, 1) := by decide +kernel
theorem dX2_tellHe_40 : decode cX2_tellHe 40 = .ok (.iload_n 1, 1) := by decide +kernel
theorem dX2_tellHe_41 : decode cX2_tellHe 41 = .ok (.putfield 109, 3) := by decide +kernel
theorem dX2_tellHe_44 : decode cX2_tellHe 44 = .ok (.aload_n 0, 1) := by decide +kernel
theorem dX2_tellHe_45 : decode cX2_tellHe 45 = .ok (.iload_n 2, 1) := by decide +kernel
theorem dX2_tellHe_46 : decode cX2_tellHe 46 = .ok (.putfield 112, 3) := by decide +kernel
theorem dX2_tellHe_49 : decode cX2_tellHe 49 = .ok (.aload_n 0, 1) := by decide +kernel
theorem dX2_tellHe_50 : decode cX2_tellHe 50 = .ok (.iload_n 3, 1) := by decide +kernel
theorem dX2_tellHe_51 : decode cX2_tellHe 51 = .ok (.putfield 115, 3) := by decide +kernel
theorem dX2_tellHe_54 : decode cX2_tellHe 54 = .ok (.iload 4, 2) := by decide +kernel
theorem dX2_tellHe_56 : decode cX2_tellHe 56 = .ok (.ireturn, 1) := by decide +kernel
theorem dX2_tellSeam_0 : decode cX2_tellSeam 0 = .ok (.iload_n 1, 1) := by decide +kernel
theorem dX2_tellSeam_1 : decode cX2_tellSeam 1 = .ok (.iconst 0, 1) := by decide +kernel
theorem dX2_tellSeam_2 : decode cX2_tellSeam 2 = .ok (.iconst 5, 1) := by decide +kernel
theorem dX2_tellSeam_3 : decode cX2_tellSeam 3 = .ok (.invokestatic 105, 3) := by decide +kernel
theorem dX2_tellSeam_6 : decode cX2_tellSeam 6 = .ok (.istore_n 2, 1) := by decide +kernel
theorem dX2_tellSeam_7 : decode cX2_tellSeam 7 = .ok (.iload_n 2, 1) := by decide +kernel
theorem dX2_tellSeam_8 : decode cX2_tellSeam 8 = .ok (.ifCond .eq 8, 3) := by decide +kernel
theorem dX2_tellSeam_11 : decode cX2_tellSeam 11 = .ok (.aload_n 0, 1) := by decide +kernel
theorem dX2_tellSeam_12 : decode cX2_tellSeam 12 = .ok (.iload_n 1, 1) := by decide +kernel
theorem dX2_tellSeam_13 : decode cX2_tellSeam 13 = .ok (.putfield 118, 3) := by decide +kernel
theorem dX2_tellSeam_16 : decode cX2_tellSeam 16 = .ok (.iload_n 2, 1) := by decide +kernel
theorem dX2_tellSeam_17 : decode cX2_tellSeam 17 = .ok (.ireturn, 1) := by decide +kernel
theorem dX2_tellStroke_0 : decode cX2_tellStroke 0 = .ok (.iload_n 1, 1) := by decide +kernel
theorem dX2_tellStroke_1 : decode cX2_tellStroke 1 = .ok (.invokestatic 93, 3) := by decide +kernel
theorem dX2_tellStroke_4 : decode cX2_tellStroke 4 = .ok (.ifCond .ne 13, 3) := by decide +kernel
theorem dX2_tellStroke_7 : decode cX2_tellStroke 7 = .ok (.aload_n 0, 1) := by decide +kernel
theorem dX2_tellStroke_8 : decode cX2_tellStroke 8 = .ok (.getfield 121, 3) := by decide +kernel
theorem dX2_tellStroke_11 : decode cX2_tellStroke 11 = .ok (.sipush 999, 3) := by decide +kernel
theorem dX2_tellStroke_14 : decode cX2_tellStroke 14 = .ok (.if_icmp .lt 5, 3) := by decide +kernel
theorem dX2_tellStroke_17 : decode cX2_tellStroke 17 = .ok (.iconst 0, 1) := by decide +kernel
theorem dX2_tellStroke_18 : decode cX2_tellStroke 18 = .ok (.ireturn, 1) := by decide +kernel
theorem dX2_tellStroke_19 : decode cX2_tellStroke 19 = .ok (.aload_n 0, 1) := by decide +kernel
theorem dX2_tellStroke_20 : decode cX2_tellStroke 20 = .ok (.iload_n 1, 1) := by decide +kernel
theorem dX2_tellStroke_21 : decode cX2_tellStroke 21 = .ok (.invokevirtual 124, 3) := by decide +kernel
theorem dX2_tellStroke_24 : decode cX2_tellStroke 24 = .ok (.iconst 1, 1) := by decide +kernel
theorem dX2_tellStroke_25 : decode cX2_tellStroke 25 = .ok (.ireturn, 1) := by decide +kernel
theorem dX2_tellSore_0 : decode cX2_tellSore 0 = .ok (.iload_n 1, 1) := by decide +kernel
theorem dX2_tellSore_1 : decode cX2_tellSore 1 = .ok (.invokestatic 93, 3) := by decide +kernel
theorem dX2_tellSore_4 : decode cX2_tellSore 4 = .ok (.ifCond .ne 13, 3) := by decide +kernel
theorem dX2_tellSore_7 : decode cX2_tellSore 7 = .ok (.iload_n 2, 1) := by decide +kernel
theorem dX2_tellSore_8 : decode cX2_tellSore 8 = .ok (.iconst 0, 1) := by decide +kernel
theorem dX2_tellSore_9 : decode cX2_tellSore 9 = .ok (.bipush 9, 2) := by decide +kernel
theorem dX2_tellSore_11 : decode cX2_tellSore 11 = .ok (.invokestatic 105, 3) := by decide +kernel
theorem dX2_tellSore_14 : decode cX2_tellSore 14 = .ok (.ifCond .ne 5, 3) := by decide +kernel
theorem dX2_tellSore_17 : decode cX2_tellSore 17 = .ok (.iconst 0, 1) := by decide +kernel
theorem dX2_tellSore_18 : decode cX2_tellSore 18 = .ok (.ireturn, 1) := by decide +kernel
theorem dX2_tellSore_19 : decode cX2_tellSore 19 = .ok (.aload_n 0, 1) := by decide +kernel
theorem dX2_tellSore_20 : decode cX2_tellSore 20 = .ok (.iload_n 1, 1) := by decide +kernel
theorem dX2_tellSore_21 : decode cX2_tellSore 21 = .ok (.iload_n 2, 1) := by decide +kernel
theorem dX2_tellSore_22 : decode cX2_tellSore 22 = .ok (.invokevirtual 128, 3) := by decide +kernel
theorem dX2_tellSore_25 : decode cX2_tellSore 25 = .ok (.iconst 1, 1) := by decide +kernel
theorem dX2_tellSore_26 : decode cX2_tellSore 26 = .ok (.ireturn, 1) := by decide +kernel
theorem dX3_init_0 : decode cX3_init 0 = .ok (.aload_n 0, 1) := by decide +kernel
theorem dX3_init_1 : decode cX3_init 1 = .ok (.invokespecial 1, 3) := by decide +kernel
theorem dX3_init_4 : decode cX3_init 4 = .ok (.aload_n 0, 1) := by decide +kernel
theorem dX3_init_5 : decode cX3_init 5 = .ok (.new 7, 3) := by decide +kernel
theorem dX3_init_8 : decode cX3_init 8 = .ok (.dup, 1) := by decide +kernel
theorem dX3_init_9 : decode cX3_init 9 = .ok (.invokespecial 9, 3) := by decide +kernel
theorem dX3_init_12 : decode cX3_init 12 = .ok (.putfield 10, 3) := by decide +kernel
theorem dX3_init_15 : decode cX3_init 15 = .ok (.aload_n 0, 1) := by decide +kernel
theorem dX3_init_16 : decode cX3_init 16 = .ok (.new 7, 3) := by decide +kernel
theorem dX3_init_19 : decode cX3_init 19 = .ok (.dup, 1) := by decide +kernel
theorem dX3_init_20 : decode cX3_init 20 = .ok (.invokespecial 9, 3) := by decide +kernel
theorem dX3_init_23 : decode cX3_init 23 = .ok (.putfield 16, 3) := by decide +kernel
theorem dX3_init_26 : decode cX3_init 26 = .ok (.aload_n 0, 1) := by decide +kernel
theorem dX3_init_27 : decode cX3_init 27 = .ok (.new 7, 3) := by decide +kernel
theorem dX3_init_30 : decode cX3_init 30 = .ok (.dup, 1) := by decide +kernel
theorem dX3_init_31 : decode cX3_init 31 = .ok (.invokespecial 9, 3) := by decide +kernel
theorem dX3_init_34 : decode cX3_init 34 = .ok (.putfield 19, 3) := by decide +kernel
theorem dX3_init_37 : decode cX3_init 37 = .ok (.aload_n 0, 1) := by decide +kernel
theorem dX3_init_38 : decode cX3_init 38 = .ok (.new 7, 3) := by decide +kernel
theorem dX3_init_41 : decode cX3_init 41 = .ok (.dup, 1) := by decide +kernel
theorem dX3_init_42 : decode cX3_init 42 = .ok (.invokespecial 9, 3) := by decide +kernel
theorem dX3_init_45 : decode cX3_init 45 = .ok (.putfield 22, 3) := by decide +kernel
theorem dX3_init_48 : decode cX3_init 48 = .ok (.aload_n 0, 1) := by decide +kernel
theorem dX3_init_49 : decode cX3_init 49 = .ok (.new 25, 3) := by decide +kernel
theorem dX3_init_52 : decode cX3_init 52 = .ok (.dup, 1) := by decide +kernel
theorem dX3_init_53 : decode cX3_init 53 = .ok (.invokespecial 27, 3) := by decide +kernel
theorem dX3_init_56 : decode cX3_init 56 = .ok (.putfield 28, 3) := by decide +kernel
theorem dX3_init_59 : decode cX3_init 59 = .ok (.aload_n 0, 1) := by decide +kernel
theorem dX3_init_60 : decode cX3_init 60 = .ok (.new 32, 3) := by decide +kernel
theorem dX3_init_63 : decode cX3_init 63 = .ok (.dup, 1) := by decide +kernel
theorem dX3_init_64 : decode cX3_init 64 = .ok (.invokespecial 34, 3) := by decide +kernel
theorem dX3_init_67 : decode cX3_init 67 = .ok (.putfield 35, 3) := by decide +kernel
theorem dX3_init_70 : decode cX3_init 70 = .ok (.aload_n 0, 1) := by decide +kernel
theorem dX3_init_71 : decode cX3_init 71 = .ok (.bipush 20, 2) := by decide +kernel
theorem dX3_init_73 : decode cX3_init 73 = .ok (.newarray .int, 2) := by decide +kernel
theorem dX3_init_75 : decode cX3_init 75 = .ok (.putfield 39, 3) := by decide +kernel
theorem dX3_init_78 : decode cX3_init 78 = .ok (.aload_n 0, 1) := by decide +kernel
theorem dX3_init_79 : decode cX3_init 79 = .ok (.bipush 9, 2) := by decide +kernel
theorem dX3_init_81 : decode cX3_init 81 = .ok (.newarray .int, 2) := by decide +kernel
theorem dX3_init_83 : decode cX3_init 83 = .ok (.putfield 43, 3) := by decide +kernel
theorem dX3_init_86 : decode cX3_init 86 = .ok (.aload_n 0, 1) := by decide +kernel
theorem dX3_init_87 : decode cX3_init 87 = .ok (.bipush 7, 2) := by decide +kernel
theorem dX3_init_89 : decode cX3_init 89 = .ok (.newarray .int, 2) := by decide +kernel
theorem dX3_init_91 : decode cX3_init 91 = .ok (.putfield 46, 3) := by decide +kernel
theorem dX3_init_94 : decode cX3_init 94 = .ok (.aload_n 0, 1) := by decide +kernel
theorem dX3_init_95 : decode cX3_init 95 = .ok (.iconst 0, 1) := by decide +kernel
theorem dX3_init_96 : decode cX3_init 96 = .ok (.putfield 49, 3) := by decide +kernel
theorem dX3_init_99 : decode cX3_init 99 = .ok (.aload_n 0, 1) := by decide +kernel
theorem dX3_init_100 : decode cX3_init 100 = .ok (.iconst 0, 1) := by decide +kernel
theorem dX3_init_101 : decode cX3_init 101 = .ok (.putfield 53, 3) := by decide +kernel
theorem dX3_init_104 : decode cX3_init 104 = .ok (.return_, 1) := by decide +kernel
theorem dX3_letter_0 : decode cX3_letter 0 = .ok (.iload_n 1, 1) := by decide +kernel
theorem dX3_letter_1 : decode cX3_letter 1 = .ok (.ifCond .ge 10, 3) := by decide +kernel
theorem dX3_letter_4 : decode cX3_letter 4 = .ok (.aload_n 0, 1) := by decide +kernel
theorem dX3_letter_5 : decode cX3_letter 5 = .ok (.bipush (-4), 2) := by decide +kernel
theorem dX3_letter_7 : decode cX3_letter 7 = .ok (.invokevirtual 57, 3) := by decide +kernel
theorem dX3_letter_10 : decode cX3_letter 10 = .ok (.ireturn, 1) := by decide +kernel
theorem dX3_letter_11 : decode cX3_letter 11 = .ok (.iload_n 1, 1) := by decide +kernel
theorem dX3_letter_12 : decode cX3_letter 12 = .ok (.sipush 255, 3) := by decide +kernel
theorem dX3_letter_15 : decode cX3_letter 15 = .ok (.if_icmp .gt 15, 3) := by decide +kernel
theorem dX3_letter_18 : decode cX3_letter 18 = .ok (.aload_n 0, 1) := by decide +kernel
theorem dX3_letter_19 : decode cX3_letter 19 = .ok (.getfield 28, 3) := by decide +kernel
theorem dX3_letter_22 : decode cX3_letter 22 = .ok (.getfield 61, 3) := by decide +kernel
theorem dX3_letter_25 : decode cX3_letter 25 = .ok (.bipush 80, 2) := by decide +kernel
theorem dX3_letter_27 : decode cX3_letter 27 = .ok (.if_icmp .lt 10, 3) := by decide +kernel
theorem dX3_letter_30 : decode cX3_letter 30 = .ok (.aload_n 0, 1) := by decide +kernel
theorem dX3_letter_31 : decode cX3_letter 31 = .ok (.bipush (-6), 2) := by decide +kernel
theorem dX3_letter_33 : decode cX3_letter 33 = .ok (.invokevirtual 57, 3) := by decide +kernel
theorem dX3_letter_36 : decode cX3_letter 36 = .ok (.ireturn, 1) := by decide +kernel
theorem dX3_letter_37 : decode cX3_letter 37 = .ok (.aload_n 0, 1) := by decide +kernel
theorem dX3_letter_38 : decode cX3_letter 38 = .ok (.getfield 28, 3) := by decide +kernel
theorem dX3_letter_41 : decode cX3_letter 41 = .ok (.iload_n 1, 1) := by decide +kernel
theorem dX3_letter_42 : decode cX3_letter 42 = .ok (.invokevirtual 64, 3) := by decide +kernel
theorem dX3_letter_45 : decode cX3_letter 45 = .ok (.ireturn, 1) := by decide +kernel
theorem dX3_back_0 : decode cX3_back 0 = .ok (.aload_n 0, 1) := by decide +kernel
theorem dX3_back_1 : decode cX3_back 1 = .ok (.getfield 19, 3) := by decide +kernel
theorem dX3_back_4 : decode cX3_back 4 = .ok (.aload_n 0, 1) := by decide +kernel
theorem dX3_back_5 : decode cX3_back 5 = .ok (.getfield 10, 3) := by decide +kernel
theorem dX3_back_8 : decode cX3_back 8 = .ok (.invokevirtual 67, 3) := by decide +kernel
theorem dX3_back_11 : decode cX3_back 11 = .ok (.aload_n 0, 1) := by decide +kernel
theorem dX3_back_12 : decode cX3_back 12 = .ok (.getfield 28, 3) := by decide +kernel
theorem dX3_back_15 : decode cX3_back 15 = .ok (.aload_n 0, 1) := by decide +kernel
theorem dX3_back_16 : decode cX3_back 16 = .ok (.getfield 19, 3) := by decide +kernel
theorem dX3_back_19 : decode cX3_back 19 = .ok (.invokevirtual 71, 3) := by decide +kernel
theorem dX3_back_22 : decode cX3_back 22 = .ok (.istore_n 1, 1) := by decide +kernel
theorem dX3_back_23 : decode cX3_back 23 = .ok (.aload_n 0, 1) := by decide +kernel
theorem dX3_back_24 : decode cX3_back 24 = .ok (.getfield 28, 3) := by decide +kernel
theorem dX3_back_27 : decode cX3_back 27 = .ok (.iconst 0, 1) := by decide +kernel
theorem dX3_back_28 : decode cX3_back 28 = .ok (.putfield 61, 3) := by decide +kernel
theorem dX3_back_31 : decode cX3_back 31 = .ok (.iload_n 1, 1) := by decide +kernel
theorem dX3_back_32 : decode cX3_back 32 = .ok (.ifCond .le 14, 3) := by decide +kernel
theorem dX3_back_35 : decode cX3_back 35 = .ok (.aload_n 0, 1) := by decide +kernel
theorem dX3_back_36 : decode cX3_back 36 = .ok (.getfield 10, 3) := by decide +kernel
theorem dX3_back_39 : decode cX3_back 39 = .ok (.aload_n 0, 1) := by decide +kernel
theorem dX3_back_40 : decode cX3_back 40 = .ok (.getfield 19, 3) := by decide +kernel
theorem dX3_back_43 : decode cX3_back 43 = .ok (.invokevirtual 67, 3) := by decide +kernel
theorem dX3_back_46 : decode cX3_back 46 = .ok (.iload_n 1, 1) := by decide +kernel
theorem dX3_back_47 : decode cX3_back 47 = .ok (.ireturn, 1) := by decide +kernel
theorem dX3_itch_0 : decode cX3_itch 0 = .ok (.iload_n 1, 1) := by decide +kernel
theorem dX3_itch_1 : decode cX3_itch 1 = .ok (.iconst 2, 1) := by decide +kernel
theorem dX3_itch_2 : decode cX3_itch 2 = .ok (.invokestatic 75, 3) := by decide +kernel
theorem dX3_itch_5 : decode cX3_itch 5 = .ok (.ifCond .eq 10, 3) := by decide +kernel
theorem dX3_itch_8 : decode cX3_itch 8 = .ok (.aload_n 0, 1) := by decide +kernel
theorem dX3_itch_9 : decode cX3_itch 9 = .ok (.bipush (-2), 2) := by decide +kernel
theorem dX3_itch_11 : decode cX3_itch 11 = .ok (.invokevirtual 57, 3) := by decide +kernel
theorem dX3_itch_14 : decode cX3_itch 14 = .ok (.ireturn, 1) := by decide +kernel
theorem dX3_itch_15 : decode cX3_itch 15 = .ok (.iload_n 1, 1) := by decide +kernel
theorem dX3_itch_16 : decode cX3_itch 16 = .ok (.ifCond .ne 13, 3) := by decide +kernel
theorem dX3_itch_19 : decode cX3_itch 19 = .ok (.aload_n 0, 1) := by decide +kernel
theorem dX3_itch_20 : decode cX3_itch 20 = .ok (.getfield 10, 3) := by decide +kernel
theorem dX3_itch_23 : decode cX3_itch 23 = .ok (.getfield 79, 3) := by decide +kernel
theorem dX3_itch_26 : decode cX3_itch 26 = .ok (.goto 10, 3) := by decide +kernel
theorem dX3_itch_29 : decode cX3_itch 29 = .ok (.aload_n 0, 1) := by decide +kernel
theorem dX3_itch_30 : decode cX3_itch 30 = .ok (.getfield 10, 3) := by decide +kernel
theorem dX3_itch_33 : decode cX3_itch 33 = .ok (.getfield 82, 3) := by decide +kernel
theorem dX3_itch_36 : decode cX3_itch 36 = .ok (.ireturn, 1) := by decide +kernel
theorem dX3_sore_0 : decode cX3_sore 0 = .ok (.iload_n 1, 1) := by decide +kernel
theorem dX3_sore_1 : decode cX3_sore 1 = .ok (.invokestatic 85, 3) := by decide +kernel
theorem dX3_sore_4 : decode cX3_sore 4 = .ok (.ifCond .eq 11, 3) := by decide +kernel
theorem dX3_sore_7 : decode cX3_sore 7 = .ok (.aload_n 0, 1) := by decide +kernel
theorem dX3_sore_8 : decode cX3_sore 8 = .ok (.iconst (-1), 1) := by decide +kernel
theorem dX3_sore_9 : decode cX3_sore 9 = .ok (.invokevirtual 57, 3) := by decide +kernel
theorem dX3_sore_12 : decode cX3_sore 12 = .ok (.goto 11, 3) := by decide +kernel
theorem dX3_sore_15 : decode cX3_sore 15 = .ok (.aload_n 0, 1) := by decide +kernel
theorem dX3_sore_16 : decode cX3_sore 16 = .ok (.getfield 10, 3) := by decide +kernel
theorem dX3_sore_19 : decode cX3_sore 19 = .ok (.iload_n 1, 1) := by decide +kernel
theorem dX3_sore_20 : decode cX3_sore 20 = .ok (.invokevirtual 89, 3) := by decide +kernel
theorem dX3_sore_23 : decode cX3_sore 23 = .ok (.ireturn, 1) := by decide +kernel
theorem dX3_heal_0 : decode cX3_heal 0 = .ok (.iload_n 1, 1) := by decide +kernel
theorem dX3_heal_1 : decode cX3_heal 1 = .ok (.invokestatic 85, 3) := by decide +kernel
theorem dX3_heal_4 : decode cX3_heal 4 = .ok (.ifCond .eq 9, 3) := by decide +kernel
theorem dX3_heal_7 : decode cX3_heal 7 = .ok (.aload_n 0, 1) := by decide +kernel
theorem dX3_heal_8 : decode cX3_heal 8 = .ok (.iconst (-1), 1) := by decide +kernel
theorem dX3_heal_9 : decode cX3_heal 9 = .ok (.invokevirtual 57, 3) := by decide +kernel
theorem dX3_heal_12 : decode cX3_heal 12 = .ok (.ireturn, 1) := by decide +kernel
theorem dX3_heal_13 : decode cX3_heal 13 = .ok (.aload_n 0, 1) := by decide +kernel
theorem dX3_heal_14 : decode cX3_heal 14 = .ok (.getfield 10, 3) := by decide +kernel
theorem dX3_heal_17 : decode cX3_heal 17 = .ok (.iload_n 1, 1) := by decide +kernel
theorem dX3_heal_18 : decode cX3_heal 18 = .ok (.invokevirtual 89, 3) := by decide +kernel
theorem dX3_heal_21 : decode cX3_heal 21 = .ok (.istore_n 2, 1) := by decide +kernel
theorem dX3_heal_22 : decode cX3_heal 22 = .ok (.aload_n 0, 1) := by decide +kernel
theorem dX3_heal_23 : decode cX3_heal 23 = .ok (.getfield 10, 3) := by decide +kernel
theorem dX3_heal_26 : decode cX3_heal 26 = .ok (.iload_n 1, 1) := by decide +kernel
theorem dX3_heal_27 : decode cX3_heal 27 = .ok (.iconst 0, 1) := by decide +kernel
theorem dX3_heal_28 : decode cX3_heal 28 = .ok (.invokevirtual 92, 3) := by decide +kernel
theorem dX3_heal_31 : decode cX3_heal 31 = .ok (.iload_n 2, 1) := by decide +kernel
theorem dX3_heal_32 : decode cX3_heal 32 = .ok (.ireturn, 1) := by decide +kernel
theorem dX3_he_0 : decode cX3_he 0 = .ok (.iload_n 1, 1) := by decide +kernel
theorem dX3_he_1 : decode cX3_he 1 = .ok (.getstatic 96, 3) := by decide +kernel
theorem dX3_he_4 : decode cX3_he 4 = .ok (.arraylength, 1) := by decide +kernel
theorem dX3_he_5 : decode cX3_he 5 = .ok (.invokestatic 75, 3) := by decide +kernel
theorem dX3_he_8 : decode cX3_he 8 = .ok (.ifCond .ne 14, 3) := by decide +kernel
theorem dX3_he_11 : decode cX3_he 11 = .ok (.iload_n 1, 1) := by decide +kernel
theorem dX3_he_12 : decode cX3_he 12 = .ok (.getstatic 99, 3) := by decide +kernel
theorem dX3_he_15 : decode cX3_he 15 = .ok (.arraylength, 1) := by decide +kernel
theorem dX3_he_16 : decode cX3_he 16 = .ok (.invokestatic 75, 3) := by decide +kernel
theorem dX3_he_19 : decode cX3_he 19 = .ok (.ifCond .eq 10, 3) := by decide +kernel
theorem dX3_he_22 : decode cX3_he 22 = .ok (.aload_n 0, 1) := by decide +kernel
theorem dX3_he_23 : decode cX3_he 23 = .ok (.bipush (-2), 2) := by decide +kernel
theorem dX3_he_25 : decode cX3_he 25 = .ok (.invokevirtual 57, 3) := by decide +kernel
theorem dX3_he_28 : decode cX3_he 28 = .ok (.ireturn, 1) := by decide +kernel
theorem dX3_he_29 : decode cX3_he 29 = .ok (.iload_n 2, 1) := by decide +kernel
theorem dX3_he_30 : decode cX3_he 30 = .ok (.getstatic 96, 3) := by decide +kernel
theorem dX3_he_33 : decode cX3_he 33 = .ok (.iload_n 1, 1) := by decide +kernel
theorem dX3_he_34 : decode cX3_he 34 = .ok (.iaload, 1) := by decide +kernel
theorem dX3_he_35 : decode cX3_he 35 = .ok (.if_icmp .ge 10, 3) := by decide +kernel
theorem dX3_he_38 : decode cX3_he 38 = .ok (.aload_n 0, 1) := by decide +kernel
theorem dX3_he_39 : decode cX3_he 39 = .ok (.bipush (-4), 2) := by decide +kernel
theorem dX3_he_41 : decode cX3_he 41 = .ok (.invokevirtual 57, 3) := by decide +kernel
theorem dX3_he_44 : decode cX3_he 44 = .ok (.ireturn, 1) := by decide +kernel
theorem dX3_he_45 : decode cX3_he 45 = .ok (.iload_n 2, 1) := by decide +kernel
theorem dX3_he_46 : decode cX3_he 46 = .ok (.getstatic 99, 3) := by decide +kernel
theorem dX3_he_49 : decode cX3_he 49 = .ok (.iload_n 1, 1) := by decide +kernel
theorem dX3_he_50 : decode cX3_he 50 = .ok (.iaload, 1) := by decide +kernel
theorem dX3_he_51 : decode cX3_he 51 = .ok (.if_icmp .le 10, 3) := by decide +kernel
theorem dX3_he_54 : decode cX3_he 54 = .ok (.aload_n 0, 1) := by decide +kernel
theorem dX3_he_55 : decode cX3_he 55 = .ok (.bipush (-6), 2) := by decide +kernel
theorem dX3_he_57 : decode cX3_he 57 = .ok (.invokevirtual 57, 3) := by decide +kernel
theorem dX3_he_60 : decode cX3_he 60 = .ok (.ireturn, 1) := by decide +kernel
theorem dX3_he_61 : decode cX3_he 61 = .ok (.aload_n 0, 1) := by decide +kernel
theorem dX3_he_62 : decode cX3_he 62 = .ok (.getfield 10, 3) := by decide +kernel
theorem dX3_he_65 : decode cX3_he 65 = .ok (.iload_n 1, 1) := by decide +kernel
theorem dX3_he_66 : decode cX3_he 66 = .ok (.iload_n 2, 1) := by decide +kernel
theorem dX3_he_67 : decode cX3_he 67 = .ok (.invokevirtual 102, 3) := by decide +kernel
theorem dX3_he_70 : decode cX3_he 70 = .ok (.ireturn, 1) := by decide +kernel
theorem dX3_stroke_0 : decode cX3_stroke 0 = .ok (.iload_n 1, 1) := by decide +kernel
theorem dX3_stroke_1 : decode cX3_stroke 1 = .ok (.invokestatic 85, 3) := by decide +kernel
theorem dX3_stroke_4 : decode cX3_stroke 4 = .ok (.ifCond .eq 9, 3) := by decide +kernel
theorem dX3_stroke_7 : decode cX3_stroke 7 = .ok (.aload_n 0, 1) := by decide +kernel
theorem dX3_stroke_8 : decode cX3_stroke 8 = .ok (.iconst (-1), 1) := by decide +kernel
theorem dX3_stroke_9 : decode cX3_stroke 9 = .ok (.invokevirtual 57, 3) := by decide +kernel
theorem dX3_stroke_12 : decode cX3_stroke 12 = .ok (.ireturn, 1) := by decide +kernel
theorem dX3_stroke_13 : decode cX3_stroke 13 = .ok (.aload_n 0, 1) := by decide +kernel
theorem dX3_stroke_14 : decode cX3_stroke 14 = .ok (.getfield 10, 3) := by decide +kernel
theorem dX3_stroke_17 : decode cX3_stroke 17 = .ok (.getfield 106, 3) := by decide +kernel
theorem dX3_stroke_20 : decode cX3_stroke 20 = .ok (.sipush 999, 3) := by decide +kernel
theorem dX3_stroke_23 : decode cX3_stroke 23 = .ok (.if_icmp .lt 10, 3) := by decide +kernel
theorem dX3_stroke_26 : decode cX3_stroke 26 = .ok (.aload_n 0, 1) := by decide +kernel
theorem dX3_stroke_27 : decode cX3_stroke 27 = .ok (.bipush (-6), 2) := by decide +kernel
theorem dX3_stroke_29 : decode cX3_stroke 29 = .ok (.invokevirtual 57, 3) := by decide +kernel
theorem dX3_stroke_32 : decode cX3_stroke 32 = .ok (.ireturn, 1) := by decide +kernel
theorem dX3_stroke_33 : decode cX3_stroke 33 = .ok (.aload_n 0, 1) := by decide +kernel
theorem dX3_stroke_34 : decode cX3_stroke 34 = .ok (.getfield 10, 3) := by decide +kernel
theorem dX3_stroke_37 : decode cX3_stroke 37 = .ok (.iload_n 1, 1) := by decide +kernel
theorem dX3_stroke_38 : decode cX3_stroke 38 = .ok (.invokevirtual 109, 3) := by decide +kernel
theorem dX3_stroke_41 : decode cX3_stroke 41 = .ok (.aload_n 0, 1) := by decide +kernel
theorem dX3_stroke_42 : decode cX3_stroke 42 = .ok (.getfield 10, 3) := by decide +kernel
theorem dX3_stroke_45 : decode cX3_stroke 45 = .ok (.getfield 82, 3) := by decide +kernel
theorem dX3_stroke_48 : decode cX3_stroke 48 = .ok (.ireturn, 1) := by decide +kernel
theorem dX3_far_0 : decode cX3_far 0 = .ok (.iload_n 1, 1) := by decide +kernel
theorem dX3_far_1 : decode cX3_far 1 = .ok (.invokestatic 85, 3) := by decide +kernel
theorem dX3_far_4 : decode cX3_far 4 = .ok (.ifCond .ne 10, 3) := by decide +kernel
theorem dX3_far_7 : decode cX3_far 7 = .ok (.iload_n 2, 1) := by decide +kernel
theorem dX3_far_8 : decode cX3_far 8 = .ok (.invokestatic 85, 3) := by decide +kernel
theorem dX3_far_11 : decode cX3_far 11 = .ok (.ifCond .eq 9, 3) := by decide +kernel
theorem dX3_far_14 : decode cX3_far 14 = .ok (.aload_n 0, 1) := by decide +kernel
theorem dX3_far_15 : decode cX3_far 15 = .ok (.iconst (-1), 1) := by decide +kernel
theorem dX3_far_16 : decode cX3_far 16 = .ok (.invokevirtual 57, 3) := by decide +kernel
theorem dX3_far_19 : decode cX3_far 19 = .ok (.ireturn, 1) := by decide +kernel
theorem dX3_far_20 : decode cX3_far 20 = .ok (.iload_n 1, 1) := by decide +kernel
theorem dX3_far_21 : decode cX3_far 21 = .ok (.iload_n 2, 1) := by decide +kernel
theorem dX3_far_22 : decode cX3_far 22 = .ok (.invokestatic 113, 3) := by decide +kernel
theorem dX3_far_25 : decode cX3_far 25 = .ok (.ireturn, 1) := by decide +kernel
theorem dX3_say_0 : decode cX3_say 0 = .ok (.aload_n 0, 1) := by decide +kernel
theorem dX3_say_1 : decode cX3_say 1 = .ok (.getfield 10, 3) := by decide +kernel
theorem dX3_say_4 : decode cX3_say 4 = .ok (.invokevirtual 116, 3) := by decide +kernel
theorem dX3_say_7 : decode cX3_say 7 = .ok (.ireturn, 1) := by decide +kernel
theorem dX3_word_0 : decode cX3_word 0 = .ok (.iload_n 1, 1) := by decide +kernel
theorem dX3_word_1 : decode cX3_word 1 = .ok (.invokestatic 85, 3) := by decide +kernel
theorem dX3_word_4 : decode cX3_word 4 = .ok (.ifCond .ne 10, 3) := by decide +kernel
theorem dX3_word_7 : decode cX3_word 7 = .ok (.iload_n 2, 1) := by decide +kernel
theorem dX3_word_8 : decode cX3_word 8 = .ok (.invokestatic 85, 3) := by decide +kernel
theorem dX3_word_11 : decode cX3_word 11 = .ok (.ifCond .eq 9, 3) := by decide +kernel
theorem dX3_word_14 : decode cX3_word 14 = .ok (.aload_n 0, 1) := by decide +kernel
theorem dX3_word_15 : decode cX3_word 15 = .ok (.iconst (-1), 1) := by decide +kernel
theorem dX3_word_16 : decode cX3_word 16 = .ok (.invokevirtual 57, 3) := by decide +kernel
theorem dX3_word_19 : decode cX3_word 19 = .ok (.ireturn, 1) := by decide +kernel
theorem dX3_word_20 : decode cX3_word 20 = .ok (.iload_n 1, 1) := by decide +kernel
theorem dX3_word_21 : decode cX3_word 21 = .ok (.iload_n 2, 1) := by decide +kernel
theorem dX3_word_22 : decode cX3_word 22 = .ok (.aload_n 0, 1) := by decide +kernel
theorem dX3_word_23 : decode cX3_word 23 = .ok (.getfield 10, 3) := by decide +kernel
theorem dX3_word_26 : decode cX3_word 26 = .ok (.getfield 120, 3) := by decide +kernel
theorem dX3_word_29 : decode cX3_word 29 = .ok (.aload_n 0, 1) := by decide +kernel
theorem dX3_word_30 : decode cX3_word 30 = .ok (.getfield 10, 3) := by decide +kernel
theorem dX3_word_33 : decode cX3_word 33 = .ok (.getfield 123, 3) := by decide +kernel
theorem dX3_word_36 : decode cX3_word 36 = .ok (.invokestatic 126, 3) := by decide +kernel
theorem dX3_word_39 : decode cX3_word 39 = .ok (.ireturn, 1) := by decide +kernel
theorem dX3_behind_0 : decode cX3_behind 0 = .ok (.iload_n 1, 1) := by decide +kernel
theorem dX3_behind_1 : decode cX3_behind 1 = .ok (.invokestatic 85, 3) := by decide +kernel
theorem dX3_behind_4 : decode cX3_behind 4 = .ok (.ifCond .eq 9, 3) := by decide +kernel
theorem dX3_behind_7 : decode cX3_behind 7 = .ok (.aload_n 0, 1) := by decide +kernel
theorem dX3_behind_8 : decode cX3_behind 8 = .ok (.iconst (-1), 1) := by decide +kernel
theorem dX3_behind_9 : decode cX3_behind 9 = .ok (.invokevirtual 57, 3) := by decide +kernel
theorem dX3_behind_12 : decode cX3_behind 12 = .ok (.ireturn, 1) := by decide +kernel
theorem dX3_behind_13 : decode cX3_behind 13 = .ok (.iload_n 2, 1) := by decide +kernel
theorem dX3_behind_14 : decode cX3_behind 14 = .ok (.ifCond .ge 10, 3) := by decide +kernel
theorem dX3_behind_17 : decode cX3_behind 17 = .ok (.aload_n 0, 1) := by decide +kernel
theorem dX3_behind_18 : decode cX3_behind 18 = .ok (.bipush (-4), 2) := by decide +kernel
theorem dX3_behind_20 : decode cX3_behind 20 = .ok (.invokevirtual 57, 3) := by decide +kernel
theorem dX3_behind_23 : decode cX3_behind 23 = .ok (.ireturn, 1) := by decide +kernel
theorem dX3_behind_24 : decode cX3_behind 24 = .ok (.iload_n 2, 1) := by decide +kernel
theorem dX3_behind_25 : decode cX3_behind 25 = .ok (.bipush 20, 2) := by decide +kernel
theorem dX3_behind_27 : decode cX3_behind 27 = .ok (.if_icmp .le 10, 3) := by decide +kernel
theorem dX3_behind_30 : decode cX3_behind 30 = .ok (.aload_n 0, 1) := by decide +kernel
theorem dX3_behind_31 : decode cX3_behind 31 = .ok (.bipush (-6), 2) := by decide +kernel
theorem dX3_behind_33 : decode cX3_behind 33 = .ok (.invokevirtual 57, 3) := by decide +kernel
theorem dX3_behind_36 : decode cX3_behind 36 = .ok (.ireturn, 1) := by decide +kernel
theorem dX3_behind_37 : decode cX3_behind 37 = .ok (.aload_n 0, 1) := by decide +kernel
theorem dX3_behind_38 : decode cX3_behind 38 = .ok (.getfield 19, 3) := by decide +kernel
theorem dX3_behind_41 : decode cX3_behind 41 = .ok (.aload_n 0, 1) := by decide +kernel
theorem dX3_behind_42 : decode cX3_behind 42 = .ok (.getfield 10, 3) := by decide +kernel
theorem dX3_behind_45 : decode cX3_behind 45 = .ok (.invokevirtual 67, 3) := by decide +kernel
theorem dX3_behind_48 : decode cX3_behind 48 = .ok (.iconst 0, 1) := by decide +kernel
theorem dX3_behind_49 : decode cX3_behind 49 = .ok (.istore_n 3, 1) := by decide +kernel
theorem dX3_behind_50 : decode cX3_behind 50 = .ok (.iload_n 3, 1) := by decide +kernel
theorem dX3_behind_51 : decode cX3_behind 51 = .ok (.iload_n 2, 1) := by decide +kernel
theorem dX3_behind_52 : decode cX3_behind 52 = .ok (.if_icmp .ge 17, 3) := by decide +kernel
theorem dX3_behind_55 : decode cX3_behind 55 = .ok (.aload_n 0, 1) := by decide +kernel
theorem dX3_behind_56 : decode cX3_behind 56 = .ok (.getfield 19, 3) := by decide +kernel
theorem dX3_behind_59 : decode cX3_behind 59 = .ok (.iload_n 1, 1) := by decide +kernel
theorem dX3_behind_60 : decode cX3_behind 60 = .ok (.invokevirtual 109, 3) := by decide +kernel
theorem dX3_behind_63 : decode cX3_behind 63 = .ok (.iinc 3 1, 3) := by decide +kernel
theorem dX3_behind_66 : decode cX3_behind 66 = .ok (.goto (-16), 3) := by decide +kernel
theorem dX3_behind_69 : decode cX3_behind 69 = .ok (.aload_n 0, 1) := by decide +kernel
theorem dX3_behind_70 : decode cX3_behind 70 = .ok (.getfield 19, 3) := by decide +kernel
theorem dX3_behind_73 : decode cX3_behind 73 = .ok (.getfield 82, 3) := by decide +kernel
theorem dX3_behind_76 : decode cX3_behind 76 = .ok (.ireturn, 1) := by decide +kernel
theorem dX3_reads_0 : decode cX3_reads 0 = .ok (.iload_n 1, 1) := by decide +kernel
theorem dX3_reads_1 : decode cX3_reads 1 = .ok (.bipush 6, 2) := by decide +kernel
theorem dX3_reads_3 : decode cX3_reads 3 = .ok (.invokestatic 75, 3) := by decide +kernel
theorem dX3_reads_6 : decode cX3_reads 6 = .ok (.ifCond .ne 12, 3) := by decide +kernel
theorem dX3_reads_9 : decode cX3_reads 9 = .ok (.iload_n 2, 1) := by decide +kernel
theorem dX3_reads_10 : decode cX3_reads 10 = .ok (.bipush 9, 2) := by decide +kernel
theorem dX3_reads_12 : decode cX3_reads 12 = .ok (.invokestatic 75, 3) := by decide +kernel
theorem dX3_reads_15 : decode cX3_reads 15 = .ok (.ifCond .eq 10, 3) := by decide +kernel
theorem dX3_reads_18 : decode cX3_reads 18 = .ok (.aload_n 0, 1) := by decide +kernel
theorem dX3_reads_19 : decode cX3_reads 19 = .ok (.bipush (-2), 2) := by decide +kernel
theorem dX3_reads_21 : decode cX3_reads 21 = .ok (.invokevirtual 57, 3) := by decide +kernel
theorem dX3_reads_24 : decode cX3_reads 24 = .ok (.ireturn, 1) := by decide +kernel
theorem dX3_reads_25 : decode cX3_reads 25 = .ok (.iload_n 3, 1) := by decide +kernel
theorem dX3_reads_26 : decode cX3_reads 26 = .ok (.ifCond .ge 10, 3) := by decide +kernel
theorem dX3_reads_29 : decode cX3_reads 29 = .ok (.aload_n 0, 1) := by decide +kernel
theorem dX3_reads_30 : decode cX3_reads 30 = .ok (.bipush (-4), 2) := by decide +kernel
theorem dX3_reads_32 : decode cX3_reads 32 = .ok (.invokevirtual 57, 3) := by decide +kernel
theorem dX3_reads_35 : decode cX3_reads 35 = .ok (.ireturn, 1) := by decide +kernel
theorem dX3_reads_36 : decode cX3_reads 36 = .ok (.aload_n 0, 1) := by decide +kernel
theorem dX3_reads_37 : decode cX3_reads 37 = .ok (.getfield 10, 3) := by decide +kernel
theorem dX3_reads_40 : decode cX3_reads 40 = .ok (.iload_n 1, 1) := by decide +kernel
theorem dX3_reads_41 : decode cX3_reads 41 = .ok (.iload_n 2, 1) := by decide +kernel
theorem dX3_reads_42 : decode cX3_reads 42 = .ok (.iload_n 3, 1) := by decide +kernel
theorem dX3_reads_43 : decode cX3_reads 43 = .ok (.invokevirtual 130, 3) := by decide +kernel
theorem dX3_reads_46 : decode cX3_reads 46 = .ok (.ireturn, 1) := by decide +kernel
theorem dX3_follow_0 : decode cX3_follow 0 = .ok (.iload_n 1, 1) := by decide +kernel
theorem dX3_follow_1 : decode cX3_follow 1 = .ok (.bipush 6, 2) := by decide +kernel
theorem dX3_follow_3 : decode cX3_follow 3 = .ok (.invokestatic 75, 3) := by decide +kernel
theorem dX3_follow_6 : decode cX3_follow 6 = .ok (.ifCond .eq 10, 3) := by decide +kernel
theorem dX3_follow_9 : decode cX3_follow 9 = .ok (.aload_n 0, 1) := by decide +kernel
theorem dX3_follow_10 : decode cX3_follow 10 = .ok (.bipush (-2), 2) := by decide +kernel
theorem dX3_follow_12 : decode cX3_follow 12 = .ok (.invokevirtual 57, 3) := by decide +kernel
theorem dX3_follow_15 : decode cX3_follow 15 = .ok (.ireturn, 1) := by decide +kernel
theorem dX3_follow_16 : decode cX3_follow 16 = .ok (.aload_n 0, 1) := by decide +kernel
theorem dX3_follow_17 : decode cX3_follow 17 = .ok (.getfield 19, 3) := by decide +kernel
theorem dX3_follow_20 : decode cX3_follow 20 = .ok (.aload_n 0, 1) := by decide +kernel
theorem dX3_follow_21 : decode cX3_follow 21 = .ok (.getfield 10, 3) := by decide +kernel
theorem dX3_follow_24 : decode cX3_follow 24 = .ok (.invokevirtual 67, 3) := by decide +kernel
theorem dX3_follow_27 : decode cX3_follow 27 = .ok (.aload_n 0, 1) := by decide +kernel
theorem dX3_follow_28 : decode cX3_follow 28 = .ok (.getfield 19, 3) := by decide +kernel
theorem dX3_follow_31 : decode cX3_follow 31 = .ok (.iload_n 1, 1) := by decide +kernel
theorem dX3_follow_32 : decode cX3_follow 32 = .ok (.invokevirtual 134, 3) := by decide +kernel
theorem dX3_follow_35 : decode cX3_follow 35 = .ok (.istore_n 2, 1) := by decide +kernel
theorem dX3_follow_36 : decode cX3_follow 36 = .ok (.iload_n 2, 1) := by decide +kernel
theorem dX3_follow_37 : decode cX3_follow 37 = .ok (.bipush 40, 2) := by decide +kernel
theorem dX3_follow_39 : decode cX3_follow 39 = .ok (.if_icmp .le 8, 3) := by decide +kernel
theorem dX3_follow_42 : decode cX3_follow 42 = .ok (.bipush (-9), 2) := by decide +kernel
theorem dX3_follow_44 : decode cX3_follow 44 = .ok (.goto 4, 3) := by decide +kernel
theorem dX3_follow_47 : decode cX3_follow 47 = .ok (.iload_n 2, 1) := by decide +kernel
theorem dX3_follow_48 : decode cX3_follow 48 = .ok (.ireturn, 1) := by decide +kernel
theorem dX3_mean_0 : decode cX3_mean 0 = .ok (.iload_n 1, 1) := by decide +kernel
theorem dX3_mean_1 : decode cX3_mean 1 = .ok (.bipush 6, 2) := by decide +kernel
theorem dX3_mean_3 : decode cX3_mean 3 = .ok (.invokestatic 75, 3) := by decide +kernel
theorem dX3_mean_6 : decode cX3_mean 6 = .ok (.ifCond .ne 11, 3) := by decide +kernel
theorem dX3_mean_9 : decode cX3_mean 9 = .ok (.iload_n 2, 1) := by decide +kernel
theorem dX3_mean_10 : decode cX3_mean 10 = .ok (.iconst 2, 1) := by decide +kernel
theorem dX3_mean_11 : decode cX3_mean 11 = .ok (.invokestatic 75, 3) := by decide +kernel
theorem dX3_mean_14 : decode cX3_mean 14 = .ok (.ifCond .eq 10, 3) := by decide +kernel
theorem dX3_mean_17 : decode cX3_mean 17 = .ok (.aload_n 0, 1) := by decide +kernel
theorem dX3_mean_18 : decode cX3_mean 18 = .ok (.bipush (-2), 2) := by decide +kernel
theorem dX3_mean_20 : decode cX3_mean 20 = .ok (.invokevirtual 137, 3) := by decide +kernel
theorem dX3_mean_23 : decode cX3_mean 23 = .ok (.lreturn, 1) := by decide +kernel
theorem dX3_mean_24 : decode cX3_mean 24 = .ok (.lconst 0, 1) := by decide +kernel
theorem dX3_mean_25 : decode cX3_mean 25 = .ok (.lstore_n 3, 1) := by decide +kernel
theorem dX3_mean_26 : decode cX3_mean 26 = .ok (.iconst 0, 1) := by decide +kernel
theorem dX3_mean_27 : decode cX3_mean 27 = .ok (.istore 5, 2) := by decide +kernel
theorem dX3_mean_29 : decode cX3_mean 29 = .ok (.iload 5, 2) := by decide +kernel
theorem dX3_mean_31 : decode cX3_mean 31 = .ok (.bipush 24, 2) := by decide +kernel
theorem dX3_mean_33 : decode cX3_mean 33 = .ok (.if_icmp .ge 46, 3) := by decide +kernel
theorem dX3_mean_36 : decode cX3_mean 36 = .ok (.aload_n 0, 1) := by decide +kernel
theorem dX3_mean_37 : decode cX3_mean 37 = .ok (.getfield 19, 3) := by decide +kernel
theorem dX3_mean_40 : decode cX3_mean 40 = .ok (.aload_n 0, 1) := by decide +kernel
theorem dX3_mean_41 : decode cX3_mean 41 = .ok (.getfield 10, 3) := by decide +kernel
theorem dX3_mean_44 : decode cX3_mean 44 = .ok (.invokevirtual 67, 3) := by decide +kernel
theorem dX3_mean_47 : decode cX3_mean 47 = .ok (.aload_n 0, 1) := by decide +kernel
theorem dX3_mean_48 : decode cX3_mean 48 = .ok (.getfield 19, 3) := by decide +kernel
theorem dX3_mean_51 : decode cX3_mean 51 = .ok (.iload 5, 2) := by decide +kernel
theorem dX3_mean_53 : decode cX3_mean 53 = .ok (.putfield 82, 3) := by decide +kernel
theorem dX3_mean_56 : decode cX3_mean 56 = .ok (.lload_n 3, 1) := by decide +kernel
theorem dX3_mean_57 : decode cX3_mean 57 = .ok (.bipush 40, 2) := by decide +kernel
theorem dX3_mean_59 : decode cX3_mean 59 = .ok (.aload_n 0, 1) := by decide +kernel
theorem dX3_mean_60 : decode cX3_mean 60 = .ok (.getfield 19, 3) := by decide +kernel
theorem dX3_mean_63 : decode cX3_mean 63 = .ok (.iload_n 1, 1) := by decide +kernel
theorem dX3_mean_64 : decode cX3_mean 64 = .ok (.invokevirtual 134, 3) := by decide +kernel
theorem dX3_mean_67 : decode cX3_mean 67 = .ok (.invokestatic 141, 3) := by decide +kernel
theorem dX3_mean_70 : decode cX3_mean 70 = .ok (.i2l, 1) := by decide +kernel
theorem dX3_mean_71 : decode cX3_mean 71 = .ok (.ladd, 1) := by decide +kernel
theorem dX3_mean_72 : decode cX3_mean 72 = .ok (.lstore_n 3, 1) := by decide +kernel
theorem dX3_mean_73 : decode cX3_mean 73 = .ok (.iinc 5 1, 3) := by decide +kernel
theorem dX3_mean_76 : decode cX3_mean 76 = .ok (.goto (-47), 3) := by decide +kernel
theorem dX3_mean_79 : decode cX3_mean 79 = .ok (.lload_n 3, 1) := by decide +kernel
theorem dX3_mean_80 : decode cX3_mean 80 = .ok (.ldc2_w 146, 3) := by decide +kernel
theorem dX3_mean_83 : decode cX3_mean 83 = .ok (.iload_n 2, 1) := by decide +kernel
theorem dX3_mean_84 : decode cX3_mean 84 = .ok (.invokestatic 148, 3) := by decide +kernel
theorem dX3_mean_87 : decode cX3_mean 87 = .ok (.lreturn, 1) := by decide +kernel
theorem dX3_hardest_0 : decode cX3_hardest 0 = .ok (.iload_n 1, 1) := by decide +kernel
theorem dX3_hardest_1 : decode cX3_hardest 1 = .ok (.bipush 6, 2) := by decide +kernel
theorem dX3_hardest_3 : decode cX3_hardest 3 = .ok (.invokestatic 75, 3) := by decide +kernel
theorem dX3_hardest_6 : decode cX3_hardest 6 = .ok (.ifCond .eq 10, 3) := by decide +kernel
theorem dX3_hardest_9 : decode cX3_hardest 9 = .ok (.aload_n 0, 1) := by decide +kernel
theorem dX3_hardest_10 : decode cX3_hardest 10 = .ok (.bipush (-2), 2) := by decide +kernel
theorem dX3_hardest_12 : decode cX3_hardest 12 = .ok (.invokevirtual 57, 3) := by decide +kernel
theorem dX3_hardest_15 : decode cX3_hardest 15 = .ok (.ireturn, 1) := by decide +kernel
theorem dX3_hardest_16 : decode cX3_hardest 16 = .ok (.iconst 0, 1) := by decide +kernel
theorem dX3_hardest_17 : decode cX3_hardest 17 = .ok (.istore_n 2, 1) := by decide +kernel
theorem dX3_hardest_18 : decode cX3_hardest 18 = .ok (.iconst (-1), 1) := by decide +kernel
theorem dX3_hardest_19 : decode cX3_hardest 19 = .ok (.istore_n 3, 1) := by decide +kernel
theorem dX3_hardest_20 : decode cX3_hardest 20 = .ok (.iconst 0, 1) := by decide +kernel
theorem dX3_hardest_21 : decode cX3_hardest 21 = .ok (.istore 4, 2) := by decide +kernel
theorem dX3_hardest_23 : decode cX3_hardest 23 = .ok (.iload 4, 2) := by decide +kernel
theorem dX3_hardest_25 : decode cX3_hardest 25 = .ok (.bipush 24, 2) := by decide +kernel
theorem dX3_hardest_27 : decode cX3_hardest 27 = .ok (.if_icmp .ge 56, 3) := by decide +kernel
theorem dX3_hardest_30 : decode cX3_hardest 30 = .ok (.aload_n 0, 1) := by decide +kernel
theorem dX3_hardest_31 : decode cX3_hardest 31 = .ok (.getfield 19, 3) := by decide +kernel
theorem dX3_hardest_34 : decode cX3_hardest 34 = .ok (.aload_n 0, 1) := by decide +kernel
theorem dX3_hardest_35 : decode cX3_hardest 35 = .ok (.getfield 10, 3) := by decide +kernel
theorem dX3_hardest_38 : decode cX3_hardest 38 = .ok (.invokevirtual 67, 3) := by decide +kernel
theorem dX3_hardest_41 : decode cX3_hardest 41 = .ok (.aload_n 0, 1) := by decide +kernel
theorem dX3_hardest_42 : decode cX3_hardest 42 = .ok (.getfield 19, 3) := by decide +kernel
theorem dX3_hardest_45 : decode cX3_hardest 45 = .ok (.iload 4, 2) := by decide +kernel
theorem dX3_hardest_47 : decode cX3_hardest 47 = .ok (.putfield 82, 3) := by decide +kernel
theorem dX3_hardest_50 : decode cX3_hardest 50 = .ok (.bipush 40, 2) := by decide +kernel
theorem dX3_hardest_52 : decode cX3_hardest 52 = .ok (.aload_n 0, 1) := by decide +kernel
theorem dX3_hardest_53 : decode cX3_hardest 53 = .ok (.getfield 19, 3) := by decide +kernel
theorem dX3_hardest_56 : decode cX3_hardest 56 = .ok (.iload_n 1, 1) := by decide +kernel
theorem dX3_hardest_57 : decode cX3_hardest 57 = .ok (.invokevirtual 134, 3) := by decide +kernel
theorem dX3_hardest_60 : decode cX3_hardest 60 = .ok (.invokestatic 141, 3) := by decide +kernel
theorem dX3_hardest_63 : decode cX3_hardest 63 = .ok (.istore 5, 2) := by decide +kernel
theorem dX3_hardest_65 : decode cX3_hardest 65 = .ok (.iload 5, 2) := by decide +kernel
theorem dX3_hardest_67 : decode cX3_hardest 67 = .ok (.iload_n 3, 1) := by decide +kernel
theorem dX3_hardest_68 : decode cX3_hardest 68 = .ok (.if_icmp .le 9, 3) := by decide +kernel
theorem dX3_hardest_71 : decode cX3_hardest 71 = .ok (.iload 5, 2) := by decide +kernel
theorem dX3_hardest_73 : decode cX3_hardest 73 = .ok (.istore_n 3, 1) := by decide +kernel
theorem dX3_hardest_74 : decode cX3_hardest 74 = .ok (.iload 4, 2) := by decide +kernel
theorem dX3_hardest_76 : decode cX3_hardest 76 = .ok (.istore_n 2, 1) := by decide +kernel
theorem dX3_hardest_77 : decode cX3_hardest 77 = .ok (.iinc 4 1, 3) := by decide +kernel
theorem dX3_hardest_80 : decode cX3_hardest 80 = .ok (.goto (-57), 3) := by decide +kernel
theorem dX3_hardest_83 : decode cX3_hardest 83 = .ok (.iload_n 2, 1) := by decide +kernel
theorem dX3_hardest_84 : decode cX3_hardest 84 = .ok (.ireturn, 1) := by decide +kernel
theorem dX3_speak_0 : decode cX3_speak 0 = .ok (.iload_n 1, 1) := by decide +kernel
theorem dX3_speak_1 : decode cX3_speak 1 = .ok (.bipush 6, 2) := by decide +kernel
theorem dX3_speak_3 : decode cX3_speak 3 = .ok (.invokestatic 75, 3) := by decide +kernel
theorem dX3_speak_6 : decode cX3_speak 6 = .ok (.ifCond .ne 11, 3) := by decide +kernel
theorem dX3_speak_9 : decode cX3_speak 9 = .ok (.iload_n 2, 1) := by decide +kernel
theorem dX3_speak_10 : decode cX3_speak 10 = .ok (.iconst 2, 1) := by decide +kernel
theorem dX3_speak_11 : decode cX3_speak 11 = .ok (.invokestatic 75, 3) := by decide +kernel
theorem dX3_speak_14 : decode cX3_speak 14 = .ok (.ifCond .eq 10, 3) := by decide +kernel
theorem dX3_speak_17 : decode cX3_speak 17 = .ok (.aload_n 0, 1) := by decide +kernel
theorem dX3_speak_18 : decode cX3_speak 18 = .ok (.bipush (-2), 2) := by decide +kernel
theorem dX3_speak_20 : decode cX3_speak 20 = .ok (.invokevirtual 57, 3) := by decide +kernel
theorem dX3_speak_23 : decode cX3_speak 23 = .ok (.ireturn, 1) := by decide +kernel
theorem dX3_speak_24 : decode cX3_speak 24 = .ok (.iconst 0, 1) := by decide +kernel
theorem dX3_speak_25 : decode cX3_speak 25 = .ok (.istore_n 3, 1) := by decide +kernel
theorem dX3_speak_26 : decode cX3_speak 26 = .ok (.bipush 42, 2) := by decide +kernel
theorem dX3_speak_28 : decode cX3_speak 28 = .ok (.istore 4, 2) := by decide +kernel
theorem dX3_speak_30 : decode cX3_speak 30 = .ok (.iconst 1, 1) := by decide +kernel
theorem dX3_speak_31 : decode cX3_speak 31 = .ok (.istore 5, 2) := by decide +kernel
theorem dX3_speak_33 : decode cX3_speak 33 = .ok (.iload 5, 2) := by decide +kernel
theorem dX3_speak_35 : decode cX3_speak 35 = .ok (.iconst 3, 1) := by decide +kernel
theorem dX3_speak_36 : decode cX3_speak 36 = .ok (.if_icmp .gt 83, 3) := by decide +kernel
theorem dX3_speak_39 : decode cX3_speak 39 = .ok (.iconst 2, 1) := by decide +kernel
theorem dX3_speak_40 : decode cX3_speak 40 = .ok (.istore 6, 2) := by decide +kernel
theorem dX3_speak_42 : decode cX3_speak 42 = .ok (.iload 6, 2) := by decide +kernel
theorem dX3_speak_44 : decode cX3_speak 44 = .ok (.iconst 5, 1) := by decide +kernel
theorem dX3_speak_45 : decode cX3_speak 45 = .ok (.if_icmp .gt 68, 3) := by decide +kernel
theorem dX3_speak_48 : decode cX3_speak 48 = .ok (.aload_n 0, 1) := by decide +kernel
theorem dX3_speak_49 : decode cX3_speak 49 = .ok (.getfield 19, 3) := by decide +kernel
theorem dX3_speak_52 : decode cX3_speak 52 = .ok (.aload_n 0, 1) := by decide +kernel
theorem dX3_speak_53 : decode cX3_speak 53 = .ok (.getfield 10, 3) := by decide +kernel
theorem dX3_speak_56 : decode cX3_speak 56 = .ok (.invokevirtual 67, 3) := by decide +kernel
theorem dX3_speak_59 : decode cX3_speak 59 = .ok (.aload_n 0, 1) := by decide +kernel
theorem dX3_speak_60 : decode cX3_speak 60 = .ok (.getfield 19, 3) := by decide +kernel
theorem dX3_speak_63 : decode cX3_speak 63 = .ok (.iload 5, 2) := by decide +kernel
theorem dX3_speak_65 : decode cX3_speak 65 = .ok (.putfield 152, 3) := by decide +kernel
theorem dX3_speak_68 : decode cX3_speak 68 = .ok (.aload_n 0, 1) := by decide +kernel
theorem dX3_speak_69 : decode cX3_speak 69 = .ok (.getfield 19, 3) := by decide +kernel
theorem dX3_speak_72 : decode cX3_speak 72 = .ok (.iload 6, 2) := by decide +kernel
theorem dX3_speak_74 : decode cX3_speak 74 = .ok (.putfield 123, 3) := by decide +kernel
theorem dX3_speak_77 : decode cX3_speak 77 = .ok (.aload_n 0, 1) := by decide +kernel
theorem dX3_speak_78 : decode cX3_speak 78 = .ok (.getfield 19, 3) := by decide +kernel
theorem dX3_speak_81 : decode cX3_speak 81 = .ok (.iload_n 1, 1) := by decide +kernel
theorem dX3_speak_82 : decode cX3_speak 82 = .ok (.invokevirtual 134, 3) := by decide +kernel
theorem dX3_speak_85 : decode cX3_speak 85 = .ok (.istore 7, 2) := by decide +kernel
theorem dX3_speak_87 : decode cX3_speak 87 = .ok (.iload 7, 2) := by decide +kernel
theorem dX3_speak_89 : decode cX3_speak 89 = .ok (.iload 4, 2) := by decide +kernel
theorem dX3_speak_91 : decode cX3_speak 91 = .ok (.if_icmp .ge 16, 3) := by decide +kernel
theorem dX3_speak_94 : decode cX3_speak 94 = .ok (.iload 7, 2) := by decide +kernel
theorem dX3_speak_96 : decode cX3_speak 96 = .ok (.istore 4, 2) := by decide +kernel
theorem dX3_speak_98 : decode cX3_speak 98 = .ok (.bipush 10, 2) := by decide +kernel
theorem dX3_speak_100 : decode cX3_speak 100 = .ok (.iload 5, 2) := by decide +kernel
theorem dX3_speak_102 : decode cX3_speak 102 = .ok (.imul, 1) := by decide +kernel
theorem dX3_speak_103 : decode cX3_speak 103 = .ok (.iload 6, 2) := by decide +kernel
theorem dX3_speak_105 : decode cX3_speak 105 = .ok (.iadd, 1) := by decide +kernel
theorem dX3_speak_106 : decode cX3_speak 106 = .ok (.istore_n 3, 1) := by decide +kernel
theorem dX3_speak_107 : decode cX3_speak 107 = .ok (.iinc 6 1, 3) := by decide +kernel
theorem dX3_speak_110 : decode cX3_speak 110 = .ok (.goto (-68), 3) := by decide +kernel
theorem dX3_speak_113 : decode cX3_speak 113 = .ok (.iinc 5 1, 3) := by decide +kernel
theorem dX3_speak_116 : decode cX3_speak 116 = .ok (.goto (-83), 3) := by decide +kernel
theorem dX3_speak_119 : decode cX3_speak 119 = .ok (.iload_n 2, 1) := by decide +kernel
theorem dX3_speak_120 : decode cX3_speak 120 = .ok (.ifCond .ne 7, 3) := by decide +kernel
theorem dX3_speak_123 : decode cX3_speak 123 = .ok (.iload_n 3, 1) := by decide +kernel
theorem dX3_speak_124 : decode cX3_speak 124 = .ok (.goto 5, 3) := by decide +kernel
theorem dX3_speak_127 : decode cX3_speak 127 = .ok (.iload 4, 2) := by decide +kernel
theorem dX3_speak_129 : decode cX3_speak 129 = .ok (.ireturn, 1) := by decide +kernel
theorem dX3_saying_0 : decode cX3_saying 0 = .ok (.iload_n 1, 1) := by decide +kernel
theorem dX3_saying_1 : decode cX3_saying 1 = .ok (.invokestatic 85, 3) := by decide +kernel
theorem dX3_saying_4 : decode cX3_saying 4 = .ok (.ifCond .eq 9, 3) := by decide +kernel
theorem dX3_saying_7 : decode cX3_saying 7 = .ok (.aload_n 0, 1) := by decide +kernel
theorem dX3_saying_8 : decode cX3_saying 8 = .ok (.iconst (-1), 1) := by decide +kernel
theorem dX3_saying_9 : decode cX3_saying 9 = .ok (.invokevirtual 57, 3) := by decide +kernel
theorem dX3_saying_12 : decode cX3_saying 12 = .ok (.ireturn, 1) := by decide +kernel
theorem dX3_saying_13 : decode cX3_saying 13 = .ok (.iload_n 2, 1) := by decide +kernel
theorem dX3_saying_14 : decode cX3_saying 14 = .ok (.bipush 9, 2) := by decide +kernel
theorem dX3_saying_16 : decode cX3_saying 16 = .ok (.invokestatic 75, 3) := by decide +kernel
theorem dX3_saying_19 : decode cX3_saying 19 = .ok (.ifCond .eq 10, 3) := by decide +kernel
theorem dX3_saying_22 : decode cX3_saying 22 = .ok (.aload_n 0, 1) := by decide +kernel
theorem dX3_saying_23 : decode cX3_saying 23 = .ok (.bipush (-2), 2) := by decide +kernel
theorem dX3_saying_25 : decode cX3_saying 25 = .ok (.invokevirtual 57, 3) := by decide +kernel
theorem dX3_saying_28 : decode cX3_saying 28 = .ok (.ireturn, 1) := by decide +kernel
theorem dX3_saying_29 : decode cX3_saying 29 = .ok (.aload_n 0, 1) := by decide +kernel
theorem dX3_saying_30 : decode cX3_saying 30 = .ok (.getfield 35, 3) := by decide +kernel
theorem dX3_saying_33 : decode cX3_saying 33 = .ok (.getfield 155, 3) := by decide +kernel
theorem dX3_saying_36 : decode cX3_saying 36 = .ok (.bipush 8, 2) := by decide +kernel
theorem dX3_saying_38 : decode cX3_saying 38 = .ok (.if_icmp .lt 10, 3) := by decide +kernel
theorem dX3_saying_41 : decode cX3_saying 41 = .ok (.aload_n 0, 1) := by decide +kernel
theorem dX3_saying_42 : decode cX3_saying 42 = .ok (.bipush (-6), 2) := by decide +kernel
theorem dX3_saying_44 : decode cX3_saying 44 = .ok (.invokevirtual 57, 3) := by decide +kernel
theorem dX3_saying_47 : decode cX3_saying 47 = .ok (.ireturn, 1) := by decide +kernel
theorem dX3_saying_48 : decode cX3_saying 48 = .ok (.aload_n 0, 1) := by decide +kernel
theorem dX3_saying_49 : decode cX3_saying 49 = .ok (.getfield 35, 3) := by decide +kernel
theorem dX3_saying_52 : decode cX3_saying 52 = .ok (.iload_n 1, 1) := by decide +kernel
theorem dX3_saying_53 : decode cX3_saying 53 = .ok (.iload_n 2, 1) := by decide +kernel
theorem dX3_saying_54 : decode cX3_saying 54 = .ok (.invokevirtual 156, 3) := by decide +kernel
theorem dX3_saying_57 : decode cX3_saying 57 = .ok (.ireturn, 1) := by decide +kernel
theorem dX3_hush_0 : decode cX3_hush 0 = .ok (.aload_n 0, 1) := by decide +kernel
theorem dX3_hush_1 : decode cX3_hush 1 = .ok (.getfield 35, 3) := by decide +kernel
theorem dX3_hush_4 : decode cX3_hush 4 = .ok (.getfield 155, 3) := by decide +kernel
theorem dX3_hush_7 : decode cX3_hush 7 = .ok (.istore_n 1, 1) := by decide +kernel
theorem dX3_hush_8 : decode cX3_hush 8 = .ok (.aload_n 0, 1) := by decide +kernel
theorem dX3_hush_9 : decode cX3_hush 9 = .ok (.getfield 35, 3) := by decide +kernel
theorem dX3_hush_12 : decode cX3_hush 12 = .ok (.iconst 0, 1) := by decide +kernel
theorem dX3_hush_13 : decode cX3_hush 13 = .ok (.putfield 155, 3) := by decide +kernel
theorem dX3_hush_16 : decode cX3_hush 16 = .ok (.iload_n 1, 1) := by decide +kernel
theorem dX3_hush_17 : decode cX3_hush 17 = .ok (.ireturn, 1) := by decide +kernel
theorem dX3_may_0 : decode cX3_may 0 = .ok (.iload_n 1, 1) := by decide +kernel
theorem dX3_may_1 : decode cX3_may 1 = .ok (.iconst 2, 1) := by decide +kernel
theorem dX3_may_2 : decode cX3_may 2 = .ok (.invokestatic 75, 3) := by decide +kernel
theorem dX3_may_5 : decode cX3_may 5 = .ok (.ifCond .eq 10, 3) := by decide +kernel
theorem dX3_may_8 : decode cX3_may 8 = .ok (.aload_n 0, 1) := by decide +kernel
theorem dX3_may_9 : decode cX3_may 9 = .ok (.bipush (-2), 2) := by decide +kernel
theorem dX3_may_11 : decode cX3_may 11 = .ok (.invokevirtual 57, 3) := by decide +kernel
theorem dX3_may_14 : decode cX3_may 14 = .ok (.ireturn, 1) := by decide +kernel
theorem dX3_may_15 : decode cX3_may 15 = .ok (.iload_n 1, 1) := by decide +kernel
theorem dX3_may_16 : decode cX3_may 16 = .ok (.ifCond .ne 25, 3) := by decide +kernel
theorem dX3_may_19 : decode cX3_may 19 = .ok (.aload_n 0, 1) := by decide +kernel
theorem dX3_may_20 : decode cX3_may 20 = .ok (.getfield 35, 3) := by decide +kernel
theorem dX3_may_23 : decode cX3_may 23 = .ok (.aload_n 0, 1) := by decide +kernel
theorem dX3_may_24 : decode cX3_may 24 = .ok (.getfield 10, 3) := by decide +kernel
theorem dX3_may_27 : decode cX3_may 27 = .ok (.getfield 120, 3) := by decide +kernel
theorem dX3_may_30 : decode cX3_may 30 = .ok (.aload_n 0, 1) := by decide +kernel
theorem dX3_may_31 : decode cX3_may 31 = .ok (.getfield 10, 3) := by decide +kernel
theorem dX3_may_34 : decode cX3_may 34 = .ok (.getfield 123, 3) := by decide +kernel
theorem dX3_may_37 : decode cX3_may 37 = .ok (.invokevirtual 158, 3) := by decide +kernel
theorem dX3_may_40 : decode cX3_may 40 = .ok (.ireturn, 1) := by decide +kernel
theorem dX3_may_41 : decode cX3_may 41 = .ok (.iconst 0, 1) := by decide +kernel
theorem dX3_may_42 : decode cX3_may 42 = .ok (.istore_n 2, 1) := by decide +kernel
theorem dX3_may_43 : decode cX3_may 43 = .ok (.iconst 0, 1) := by decide +kernel
theorem dX3_may_44 : decode cX3_may 44 = .ok (.istore_n 3, 1) := by decide +kernel
theorem dX3_may_45 : decode cX3_may 45 = .ok (.iload_n 3, 1) := by decide +kernel
theorem dX3_may_46 : decode cX3_may 46 = .ok (.iconst 1, 1) := by decide +kernel
theorem dX3_may_47 : decode cX3_may 47 = .ok (.if_icmp .gt 37, 3) := by decide +kernel
theorem dX3_may_50 : decode cX3_may 50 = .ok (.iconst 2, 1) := by decide +kernel
theorem dX3_may_51 : decode cX3_may 51 = .ok (.istore 4, 2) := by decide +kernel
theorem dX3_may_53 : decode cX3_may 53 = .ok (.iload 4, 2) := by decide +kernel
theorem dX3_may_55 : decode cX3_may 55 = .ok (.iconst 5, 1) := by decide +kernel
theorem dX3_may_56 : decode cX3_may 56 = .ok (.if_icmp .gt 22, 3) := by decide +kernel
theorem dX3_may_59 : decode cX3_may 59 = .ok (.iload_n 2, 1) := by decide +kernel
theorem dX3_may_60 : decode cX3_may 60 = .ok (.aload_n 0, 1) := by decide +kernel
theorem dX3_may_61 : decode cX3_may 61 = .ok (.getfield 35, 3) := by decide +kernel
theorem dX3_may_64 : decode cX3_may 64 = .ok (.iload_n 3, 1) := by decide +kernel
theorem dX3_may_65 : decode cX3_may 65 = .ok (.iload 4, 2) := by decide +kernel
theorem dX3_may_67 : decode cX3_may 67 = .ok (.invokevirtual 158, 3) := by decide +kernel
theorem dX3_may_70 : decode cX3_may 70 = .ok (.ior, 1) := by decide +kernel
theorem dX3_may_71 : decode cX3_may 71 = .ok (.istore_n 2, 1) := by decide +kernel
theorem dX3_may_72 : decode cX3_may 72 = .ok (.iinc 4 1, 3) := by decide +kernel
theorem dX3_may_75 : decode cX3_may 75 = .ok (.goto (-22), 3) := by decide +kernel
theorem dX3_may_78 : decode cX3_may 78 = .ok (.iinc 3 1, 3) := by decide +kernel
theorem dX3_may_81 : decode cX3_may 81 = .ok (.goto (-36), 3) := by decide +kernel
theorem dX3_may_84 : decode cX3_may 84 = .ok (.iload_n 2, 1) := by decide +kernel
theorem dX3_may_85 : decode cX3_may 85 = .ok (.ireturn, 1) := by decide +kernel
theorem dX3_heMany_0 : decode cX3_heMany 0 = .ok (.iconst 0, 1) := by decide +kernel
theorem dX3_heMany_1 : decode cX3_heMany 1 = .ok (.istore_n 1, 1) := by decide +kernel
theorem dX3_heMany_2 : decode cX3_heMany 2 = .ok (.iconst 0, 1) := by decide +kernel
theorem dX3_heMany_3 : decode cX3_heMany 3 = .ok (.istore_n 2, 1) := by decide +kernel
theorem dX3_heMany_4 : decode cX3_heMany 4 = .ok (.iload_n 2, 1) := by decide +kernel
theorem dX3_heMany_5 : decode cX3_heMany 5 = .ok (.iconst 1, 1) := by decide +kernel
theorem dX3_heMany_6 : decode cX3_heMany 6 = .ok (.if_icmp .gt 37, 3) := by decide +kernel
theorem dX3_heMany_9 : decode cX3_heMany 9 = .ok (.iconst 2, 1) := by decide +kernel
theorem dX3_heMany_10 : decode cX3_heMany 10 = .ok (.istore_n 3, 1) := by decide +kernel
theorem dX3_heMany_11 : decode cX3_heMany 11 = .ok (.iload_n 3, 1) := by decide +kernel
theorem dX3_heMany_12 : decode cX3_heMany 12 = .ok (.iconst 5, 1) := by decide +kernel
theorem dX3_heMany_13 : decode cX3_heMany 13 = .ok (.if_icmp .gt 24, 3) := by decide +kernel
theorem dX3_heMany_16 : decode cX3_heMany 16 = .ok (.aload_n 0, 1) := by decide +kernel
theorem dX3_heMany_17 : decode cX3_heMany 17 = .ok (.getfield 35, 3) := by decide +kernel
theorem dX3_heMany_20 : decode cX3_heMany 20 = .ok (.iload_n 2, 1) := by decide +kernel
theorem dX3_heMany_21 : decode cX3_heMany 21 = .ok (.iload_n 3, 1) := by decide +kernel
theorem dX3_heMany_22 : decode cX3_heMany 22 = .ok (.invokevirtual 158, 3) := by decide +kernel
