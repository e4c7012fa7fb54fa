theorem dX4_back_1 : decode cX4_back 1 = .ok (.iconst 0, 1) := by decide +kernel
theorem dX4_back_2 : decode cX4_back 2 = .ok (.putfield 64, 3) := by decide +kernel
theorem dX4_back_5 : decode cX4_back 5 = .ok (.aload_n 0, 1) := by decide +kernel
theorem dX4_back_6 : decode cX4_back 6 = .ok (.iconst 0, 1) := by decide +kernel
theorem dX4_back_7 : decode cX4_back 7 = .ok (.putfield 86, 3) := by decide +kernel
theorem dX4_back_10 : decode cX4_back 10 = .ok (.iconst 1, 1) := by decide +kernel
theorem dX4_back_11 : decode cX4_back 11 = .ok (.istore_n 1, 1) := by decide +kernel
theorem dX4_back_12 : decode cX4_back 12 = .ok (.iload_n 1, 1) := by decide +kernel
theorem dX4_back_13 : decode cX4_back 13 = .ok (.ifCond .eq 47, 3) := by decide +kernel
theorem dX4_back_16 : decode cX4_back 16 = .ok (.aload_n 0, 1) := by decide +kernel
theorem dX4_back_17 : decode cX4_back 17 = .ok (.getfield 64, 3) := by decide +kernel
theorem dX4_back_20 : decode cX4_back 20 = .ok (.aload_n 0, 1) := by decide +kernel
theorem dX4_back_21 : decode cX4_back 21 = .ok (.getfield 56, 3) := by decide +kernel
theorem dX4_back_24 : decode cX4_back 24 = .ok (.if_icmp .lt 10, 3) := by decide +kernel
theorem dX4_back_27 : decode cX4_back 27 = .ok (.aload_n 0, 1) := by decide +kernel
theorem dX4_back_28 : decode cX4_back 28 = .ok (.getfield 86, 3) := by decide +kernel
theorem dX4_back_31 : decode cX4_back 31 = .ok (.ifCond .ne 29, 3) := by decide +kernel
theorem dX4_back_34 : decode cX4_back 34 = .ok (.aload_n 0, 1) := by decide +kernel
theorem dX4_back_35 : decode cX4_back 35 = .ok (.invokevirtual 117, 3) := by decide +kernel
theorem dX4_back_38 : decode cX4_back 38 = .ok (.istore_n 1, 1) := by decide +kernel
theorem dX4_back_39 : decode cX4_back 39 = .ok (.aload_n 0, 1) := by decide +kernel
theorem dX4_back_40 : decode cX4_back 40 = .ok (.dup, 1) := by decide +kernel
theorem dX4_back_41 : decode cX4_back 41 = .ok (.getfield 86, 3) := by decide +kernel
theorem dX4_back_44 : decode cX4_back 44 = .ok (.iload_n 1, 1) := by decide +kernel
theorem dX4_back_45 : decode cX4_back 45 = .ok (.ifCond .eq 7, 3) := by decide +kernel
theorem dX4_back_48 : decode cX4_back 48 = .ok (.iconst 1, 1) := by decide +kernel
theorem dX4_back_49 : decode cX4_back 49 = .ok (.goto 4, 3) := by decide +kernel
theorem dX4_back_52 : decode cX4_back 52 = .ok (.iconst 0, 1) := by decide +kernel
theorem dX4_back_53 : decode cX4_back 53 = .ok (.iadd, 1) := by decide +kernel
theorem dX4_back_54 : decode cX4_back 54 = .ok (.putfield 86, 3) := by decide +kernel
theorem dX4_back_57 : decode cX4_back 57 = .ok (.goto (-45), 3) := by decide +kernel
theorem dX4_back_60 : decode cX4_back 60 = .ok (.aload_n 0, 1) := by decide +kernel
theorem dX4_back_61 : decode cX4_back 61 = .ok (.iconst 0, 1) := by decide +kernel
theorem dX4_back_62 : decode cX4_back 62 = .ok (.putfield 56, 3) := by decide +kernel
theorem dX4_back_65 : decode cX4_back 65 = .ok (.iload_n 1, 1) := by decide +kernel
theorem dX4_back_66 : decode cX4_back 66 = .ok (.ifCond .ne 12, 3) := by decide +kernel
theorem dX4_back_69 : decode cX4_back 69 = .ok (.sipush (-1000), 3) := by decide +kernel
theorem dX4_back_72 : decode cX4_back 72 = .ok (.aload_n 0, 1) := by decide +kernel
theorem dX4_back_73 : decode cX4_back 73 = .ok (.getfield 64, 3) := by decide +kernel
theorem dX4_back_76 : decode cX4_back 76 = .ok (.isub, 1) := by decide +kernel
theorem dX4_back_77 : decode cX4_back 77 = .ok (.ireturn, 1) := by decide +kernel
theorem dX4_back_78 : decode cX4_back 78 = .ok (.aload_n 0, 1) := by decide +kernel
theorem dX4_back_79 : decode cX4_back 79 = .ok (.iconst 1, 1) := by decide +kernel
theorem dX4_back_80 : decode cX4_back 80 = .ok (.iconst 1, 1) := by decide +kernel
theorem dX4_back_81 : decode cX4_back 81 = .ok (.invokevirtual 121, 3) := by decide +kernel
theorem dX4_back_84 : decode cX4_back 84 = .ok (.iconst 0, 1) := by decide +kernel
theorem dX4_back_85 : decode cX4_back 85 = .ok (.istore_n 2, 1) := by decide +kernel
theorem dX4_back_86 : decode cX4_back 86 = .ok (.iload_n 2, 1) := by decide +kernel
theorem dX4_back_87 : decode cX4_back 87 = .ok (.aload_n 0, 1) := by decide +kernel
theorem dX4_back_88 : decode cX4_back 88 = .ok (.getfield 86, 3) := by decide +kernel
theorem dX4_back_91 : decode cX4_back 91 = .ok (.if_icmp .ge 37, 3) := by decide +kernel
theorem dX4_back_94 : decode cX4_back 94 = .ok (.aload_n 0, 1) := by decide +kernel
theorem dX4_back_95 : decode cX4_back 95 = .ok (.iload_n 2, 1) := by decide +kernel
theorem dX4_back_96 : decode cX4_back 96 = .ok (.invokevirtual 125, 3) := by decide +kernel
theorem dX4_back_99 : decode cX4_back 99 = .ok (.ifCond .eq 6, 3) := by decide +kernel
theorem dX4_back_102 : decode cX4_back 102 = .ok (.goto 20, 3) := by decide +kernel
theorem dX4_back_105 : decode cX4_back 105 = .ok (.aload_n 0, 1) := by decide +kernel
theorem dX4_back_106 : decode cX4_back 106 = .ok (.iconst 1, 1) := by decide +kernel
theorem dX4_back_107 : decode cX4_back 107 = .ok (.iconst 0, 1) := by decide +kernel
theorem dX4_back_108 : decode cX4_back 108 = .ok (.invokevirtual 121, 3) := by decide +kernel
theorem dX4_back_111 : decode cX4_back 111 = .ok (.sipush (-2000), 3) := by decide +kernel
theorem dX4_back_114 : decode cX4_back 114 = .ok (.aload_n 0, 1) := by decide +kernel
theorem dX4_back_115 : decode cX4_back 115 = .ok (.getfield 25, 3) := by decide +kernel
theorem dX4_back_118 : decode cX4_back 118 = .ok (.iload_n 2, 1) := by decide +kernel
theorem dX4_back_119 : decode cX4_back 119 = .ok (.iaload, 1) := by decide +kernel
theorem dX4_back_120 : decode cX4_back 120 = .ok (.isub, 1) := by decide +kernel
theorem dX4_back_121 : decode cX4_back 121 = .ok (.ireturn, 1) := by decide +kernel
theorem dX4_back_122 : decode cX4_back 122 = .ok (.iinc 2 1, 3) := by decide +kernel
theorem dX4_back_125 : decode cX4_back 125 = .ok (.goto (-39), 3) := by decide +kernel
theorem dX4_back_128 : decode cX4_back 128 = .ok (.aload_n 0, 1) := by decide +kernel
theorem dX4_back_129 : decode cX4_back 129 = .ok (.getfield 86, 3) := by decide +kernel
theorem dX4_back_132 : decode cX4_back 132 = .ok (.ireturn, 1) := by decide +kernel
theorem dX4_passes_0 : decode cX4_passes 0 = .ok (.iconst 0, 1) := by decide +kernel
theorem dX4_passes_1 : decode cX4_passes 1 = .ok (.istore_n 2, 1) := by decide +kernel
theorem dX4_passes_2 : decode cX4_passes 2 = .ok (.iload_n 2, 1) := by decide +kernel
theorem dX4_passes_3 : decode cX4_passes 3 = .ok (.aload_n 1, 1) := by decide +kernel
theorem dX4_passes_4 : decode cX4_passes 4 = .ok (.arraylength, 1) := by decide +kernel
theorem dX4_passes_5 : decode cX4_passes 5 = .ok (.if_icmp .ge 53, 3) := by decide +kernel
theorem dX4_passes_8 : decode cX4_passes 8 = .ok (.aload_n 0, 1) := by decide +kernel
theorem dX4_passes_9 : decode cX4_passes 9 = .ok (.getfield 128, 3) := by decide +kernel
theorem dX4_passes_12 : decode cX4_passes 12 = .ok (.ifCond .eq 18, 3) := by decide +kernel
theorem dX4_passes_15 : decode cX4_passes 15 = .ok (.aload_n 0, 1) := by decide +kernel
theorem dX4_passes_16 : decode cX4_passes 16 = .ok (.getfield 31, 3) := by decide +kernel
theorem dX4_passes_19 : decode cX4_passes 19 = .ok (.aload_n 0, 1) := by decide +kernel
theorem dX4_passes_20 : decode cX4_passes 20 = .ok (.getfield 132, 3) := by decide +kernel
theorem dX4_passes_23 : decode cX4_passes 23 = .ok (.aload_n 1, 1) := by decide +kernel
theorem dX4_passes_24 : decode cX4_passes 24 = .ok (.iload_n 2, 1) := by decide +kernel
theorem dX4_passes_25 : decode cX4_passes 25 = .ok (.iaload, 1) := by decide +kernel
theorem dX4_passes_26 : decode cX4_passes 26 = .ok (.iastore, 1) := by decide +kernel
theorem dX4_passes_27 : decode cX4_passes 27 = .ok (.goto 15, 3) := by decide +kernel
theorem dX4_passes_30 : decode cX4_passes 30 = .ok (.aload_n 1, 1) := by decide +kernel
theorem dX4_passes_31 : decode cX4_passes 31 = .ok (.iload_n 2, 1) := by decide +kernel
theorem dX4_passes_32 : decode cX4_passes 32 = .ok (.aload_n 0, 1) := by decide +kernel
theorem dX4_passes_33 : decode cX4_passes 33 = .ok (.getfield 31, 3) := by decide +kernel
theorem dX4_passes_36 : decode cX4_passes 36 = .ok (.aload_n 0, 1) := by decide +kernel
theorem dX4_passes_37 : decode cX4_passes 37 = .ok (.getfield 132, 3) := by decide +kernel
theorem dX4_passes_40 : decode cX4_passes 40 = .ok (.iaload, 1) := by decide +kernel
theorem dX4_passes_41 : decode cX4_passes 41 = .ok (.iastore, 1) := by decide +kernel
theorem dX4_passes_42 : decode cX4_passes 42 = .ok (.aload_n 0, 1) := by decide +kernel
theorem dX4_passes_43 : decode cX4_passes 43 = .ok (.dup, 1) := by decide +kernel
theorem dX4_passes_44 : decode cX4_passes 44 = .ok (.getfield 132, 3) := by decide +kernel
theorem dX4_passes_47 : decode cX4_passes 47 = .ok (.iconst 1, 1) := by decide +kernel
theorem dX4_passes_48 : decode cX4_passes 48 = .ok (.iadd, 1) := by decide +kernel
theorem dX4_passes_49 : decode cX4_passes 49 = .ok (.putfield 132, 3) := by decide +kernel
theorem dX4_passes_52 : decode cX4_passes 52 = .ok (.iinc 2 1, 3) := by decide +kernel
theorem dX4_passes_55 : decode cX4_passes 55 = .ok (.goto (-53), 3) := by decide +kernel
theorem dX4_passes_58 : decode cX4_passes 58 = .ok (.return_, 1) := by decide +kernel
theorem dX4_passOne_0 : decode cX4_passOne 0 = .ok (.aload_n 0, 1) := by decide +kernel
theorem dX4_passOne_1 : decode cX4_passOne 1 = .ok (.getfield 128, 3) := by decide +kernel
theorem dX4_passOne_4 : decode cX4_passOne 4 = .ok (.ifCond .eq 7, 3) := by decide +kernel
theorem dX4_passOne_7 : decode cX4_passOne 7 = .ok (.iload_n 1, 1) := by decide +kernel
theorem dX4_passOne_8 : decode cX4_passOne 8 = .ok (.goto 12, 3) := by decide +kernel
theorem dX4_passOne_11 : decode cX4_passOne 11 = .ok (.aload_n 0, 1) := by decide +kernel
theorem dX4_passOne_12 : decode cX4_passOne 12 = .ok (.getfield 31, 3) := by decide +kernel
theorem dX4_passOne_15 : decode cX4_passOne 15 = .ok (.aload_n 0, 1) := by decide +kernel
theorem dX4_passOne_16 : decode cX4_passOne 16 = .ok (.getfield 132, 3) := by decide +kernel
theorem dX4_passOne_19 : decode cX4_passOne 19 = .ok (.iaload, 1) := by decide +kernel
theorem dX4_passOne_20 : decode cX4_passOne 20 = .ok (.istore_n 2, 1) := by decide +kernel
theorem dX4_passOne_21 : decode cX4_passOne 21 = .ok (.aload_n 0, 1) := by decide +kernel
theorem dX4_passOne_22 : decode cX4_passOne 22 = .ok (.getfield 128, 3) := by decide +kernel
theorem dX4_passOne_25 : decode cX4_passOne 25 = .ok (.ifCond .eq 13, 3) := by decide +kernel
theorem dX4_passOne_28 : decode cX4_passOne 28 = .ok (.aload_n 0, 1) := by decide +kernel
theorem dX4_passOne_29 : decode cX4_passOne 29 = .ok (.getfield 31, 3) := by decide +kernel
theorem dX4_passOne_32 : decode cX4_passOne 32 = .ok (.aload_n 0, 1) := by decide +kernel
theorem dX4_passOne_33 : decode cX4_passOne 33 = .ok (.getfield 132, 3) := by decide +kernel
theorem dX4_passOne_36 : decode cX4_passOne 36 = .ok (.iload_n 1, 1) := by decide +kernel
theorem dX4_passOne_37 : decode cX4_passOne 37 = .ok (.iastore, 1) := by decide +kernel
theorem dX4_passOne_38 : decode cX4_passOne 38 = .ok (.aload_n 0, 1) := by decide +kernel
theorem dX4_passOne_39 : decode cX4_passOne 39 = .ok (.dup, 1) := by decide +kernel
theorem dX4_passOne_40 : decode cX4_passOne 40 = .ok (.getfield 132, 3) := by decide +kernel
theorem dX4_passOne_43 : decode cX4_passOne 43 = .ok (.iconst 1, 1) := by decide +kernel
theorem dX4_passOne_44 : decode cX4_passOne 44 = .ok (.iadd, 1) := by decide +kernel
theorem dX4_passOne_45 : decode cX4_passOne 45 = .ok (.putfield 132, 3) := by decide +kernel
theorem dX4_passOne_48 : decode cX4_passOne 48 = .ok (.iload_n 2, 1) := by decide +kernel
theorem dX4_passOne_49 : decode cX4_passOne 49 = .ok (.ireturn, 1) := by decide +kernel
theorem dX4_passesAll_0 : decode cX4_passesAll 0 = .ok (.aload_n 0, 1) := by decide +kernel
theorem dX4_passesAll_1 : decode cX4_passesAll 1 = .ok (.bipush 35, 2) := by decide +kernel
theorem dX4_passesAll_3 : decode cX4_passesAll 3 = .ok (.iload_n 1, 1) := by decide +kernel
theorem dX4_passesAll_4 : decode cX4_passesAll 4 = .ok (.imul, 1) := by decide +kernel
theorem dX4_passesAll_5 : decode cX4_passesAll 5 = .ok (.putfield 132, 3) := by decide +kernel
theorem dX4_passesAll_8 : decode cX4_passesAll 8 = .ok (.aload_n 0, 1) := by decide +kernel
theorem dX4_passesAll_9 : decode cX4_passesAll 9 = .ok (.iload_n 2, 1) := by decide +kernel
theorem dX4_passesAll_10 : decode cX4_passesAll 10 = .ok (.putfield 128, 3) := by decide +kernel
theorem dX4_passesAll_13 : decode cX4_passesAll 13 = .ok (.aload_n 0, 1) := by decide +kernel
theorem dX4_passesAll_14 : decode cX4_passesAll 14 = .ok (.aload_n 0, 1) := by decide +kernel
theorem dX4_passesAll_15 : decode cX4_passesAll 15 = .ok (.getfield 13, 3) := by decide +kernel
theorem dX4_passesAll_18 : decode cX4_passesAll 18 = .ok (.invokevirtual 135, 3) := by decide +kernel
theorem dX4_passesAll_21 : decode cX4_passesAll 21 = .ok (.aload_n 0, 1) := by decide +kernel
theorem dX4_passesAll_22 : decode cX4_passesAll 22 = .ok (.aload_n 0, 1) := by decide +kernel
theorem dX4_passesAll_23 : decode cX4_passesAll 23 = .ok (.getfield 16, 3) := by decide +kernel
theorem dX4_passesAll_26 : decode cX4_passesAll 26 = .ok (.invokevirtual 135, 3) := by decide +kernel
theorem dX4_passesAll_29 : decode cX4_passesAll 29 = .ok (.aload_n 0, 1) := by decide +kernel
theorem dX4_passesAll_30 : decode cX4_passesAll 30 = .ok (.aload_n 0, 1) := by decide +kernel
theorem dX4_passesAll_31 : decode cX4_passesAll 31 = .ok (.aload_n 0, 1) := by decide +kernel
theorem dX4_passesAll_32 : decode cX4_passesAll 32 = .ok (.getfield 98, 3) := by decide +kernel
theorem dX4_passesAll_35 : decode cX4_passesAll 35 = .ok (.invokevirtual 139, 3) := by decide +kernel
theorem dX4_passesAll_38 : decode cX4_passesAll 38 = .ok (.putfield 98, 3) := by decide +kernel
theorem dX4_passesAll_41 : decode cX4_passesAll 41 = .ok (.aload_n 0, 1) := by decide +kernel
theorem dX4_passesAll_42 : decode cX4_passesAll 42 = .ok (.aload_n 0, 1) := by decide +kernel
theorem dX4_passesAll_43 : decode cX4_passesAll 43 = .ok (.aload_n 0, 1) := by decide +kernel
theorem dX4_passesAll_44 : decode cX4_passesAll 44 = .ok (.getfield 101, 3) := by decide +kernel
theorem dX4_passesAll_47 : decode cX4_passesAll 47 = .ok (.invokevirtual 139, 3) := by decide +kernel
theorem dX4_passesAll_50 : decode cX4_passesAll 50 = .ok (.putfield 101, 3) := by decide +kernel
theorem dX4_passesAll_53 : decode cX4_passesAll 53 = .ok (.aload_n 0, 1) := by decide +kernel
theorem dX4_passesAll_54 : decode cX4_passesAll 54 = .ok (.aload_n 0, 1) := by decide +kernel
theorem dX4_passesAll_55 : decode cX4_passesAll 55 = .ok (.aload_n 0, 1) := by decide +kernel
theorem dX4_passesAll_56 : decode cX4_passesAll 56 = .ok (.getfield 142, 3) := by decide +kernel
theorem dX4_passesAll_59 : decode cX4_passesAll 59 = .ok (.invokevirtual 139, 3) := by decide +kernel
theorem dX4_passesAll_62 : decode cX4_passesAll 62 = .ok (.putfield 142, 3) := by decide +kernel
theorem dX4_passesAll_65 : decode cX4_passesAll 65 = .ok (.aload_n 0, 1) := by decide +kernel
theorem dX4_passesAll_66 : decode cX4_passesAll 66 = .ok (.aload_n 0, 1) := by decide +kernel
theorem dX4_passesAll_67 : decode cX4_passesAll 67 = .ok (.aload_n 0, 1) := by decide +kernel
theorem dX4_passesAll_68 : decode cX4_passesAll 68 = .ok (.getfield 110, 3) := by decide +kernel
theorem dX4_passesAll_71 : decode cX4_passesAll 71 = .ok (.invokevirtual 139, 3) := by decide +kernel
theorem dX4_passesAll_74 : decode cX4_passesAll 74 = .ok (.putfield 110, 3) := by decide +kernel
theorem dX4_passesAll_77 : decode cX4_passesAll 77 = .ok (.return_, 1) := by decide +kernel
theorem dX4_image_0 : decode cX4_image 0 = .ok (.aload_n 0, 1) := by decide +kernel
theorem dX4_image_1 : decode cX4_image 1 = .ok (.iconst 1, 1) := by decide +kernel
theorem dX4_image_2 : decode cX4_image 2 = .ok (.putfield 145, 3) := by decide +kernel
theorem dX4_image_5 : decode cX4_image 5 = .ok (.aload_n 0, 1) := by decide +kernel
theorem dX4_image_6 : decode cX4_image 6 = .ok (.iconst 0, 1) := by decide +kernel
theorem dX4_image_7 : decode cX4_image 7 = .ok (.iconst 1, 1) := by decide +kernel
theorem dX4_image_8 : decode cX4_image 8 = .ok (.invokevirtual 121, 3) := by decide +kernel
theorem dX4_image_11 : decode cX4_image 11 = .ok (.aload_n 0, 1) := by decide +kernel
theorem dX4_image_12 : decode cX4_image 12 = .ok (.getfield 110, 3) := by decide +kernel
theorem dX4_image_15 : decode cX4_image 15 = .ok (.ireturn, 1) := by decide +kernel
theorem dX4_on_0 : decode cX4_on 0 = .ok (.aload_n 0, 1) := by decide +kernel
theorem dX4_on_1 : decode cX4_on 1 = .ok (.getfield 145, 3) := by decide +kernel
theorem dX4_on_4 : decode cX4_on 4 = .ok (.ifCond .ne 10, 3) := by decide +kernel
theorem dX4_on_7 : decode cX4_on 7 = .ok (.aload_n 0, 1) := by decide +kernel
theorem dX4_on_8 : decode cX4_on 8 = .ok (.bipush (-3), 2) := by decide +kernel
theorem dX4_on_10 : decode cX4_on 10 = .ok (.invokevirtual 60, 3) := by decide +kernel
theorem dX4_on_13 : decode cX4_on 13 = .ok (.ireturn, 1) := by decide +kernel
theorem dX4_on_14 : decode cX4_on 14 = .ok (.aload_n 0, 1) := by decide +kernel
theorem dX4_on_15 : decode cX4_on 15 = .ok (.iconst 0, 1) := by decide +kernel
theorem dX4_on_16 : decode cX4_on 16 = .ok (.iconst 0, 1) := by decide +kernel
theorem dX4_on_17 : decode cX4_on 17 = .ok (.invokevirtual 121, 3) := by decide +kernel
theorem dX4_on_20 : decode cX4_on 20 = .ok (.aload_n 0, 1) := by decide +kernel
theorem dX4_on_21 : decode cX4_on 21 = .ok (.getfield 110, 3) := by decide +kernel
theorem dX4_on_24 : decode cX4_on 24 = .ok (.ireturn, 1) := by decide +kernel
theorem dX4_plainBeside_0 : decode cX4_plainBeside 0 = .ok (.aload_n 0, 1) := by decide +kernel
theorem dX4_plainBeside_1 : decode cX4_plainBeside 1 = .ok (.getfield 101, 3) := by decide +kernel
theorem dX4_plainBeside_4 : decode cX4_plainBeside 4 = .ok (.bipush 6, 2) := by decide +kernel
theorem dX4_plainBeside_6 : decode cX4_plainBeside 6 = .ok (.idiv, 1) := by decide +kernel
theorem dX4_plainBeside_7 : decode cX4_plainBeside 7 = .ok (.aload_n 0, 1) := by decide +kernel
theorem dX4_plainBeside_8 : decode cX4_plainBeside 8 = .ok (.getfield 142, 3) := by decide +kernel
theorem dX4_plainBeside_11 : decode cX4_plainBeside 11 = .ok (.bipush 6, 2) := by decide +kernel
theorem dX4_plainBeside_13 : decode cX4_plainBeside 13 = .ok (.idiv, 1) := by decide +kernel
theorem dX4_plainBeside_14 : decode cX4_plainBeside 14 = .ok (.if_icmp .ne 18, 3) := by decide +kernel
theorem dX4_plainBeside_17 : decode cX4_plainBeside 17 = .ok (.aload_n 0, 1) := by decide +kernel
theorem dX4_plainBeside_18 : decode cX4_plainBeside 18 = .ok (.getfield 101, 3) := by decide +kernel
theorem dX4_plainBeside_21 : decode cX4_plainBeside 21 = .ok (.aload_n 0, 1) := by decide +kernel
theorem dX4_plainBeside_22 : decode cX4_plainBeside 22 = .ok (.getfield 142, 3) := by decide +kernel
theorem dX4_plainBeside_25 : decode cX4_plainBeside 25 = .ok (.invokestatic 48, 3) := by decide +kernel
theorem dX4_plainBeside_28 : decode cX4_plainBeside 28 = .ok (.iconst 1, 1) := by decide +kernel
theorem dX4_plainBeside_29 : decode cX4_plainBeside 29 = .ok (.if_icmp .eq 8, 3) := by decide +kernel
theorem dX4_plainBeside_32 : decode cX4_plainBeside 32 = .ok (.aload_n 0, 1) := by decide +kernel
theorem dX4_plainBeside_33 : decode cX4_plainBeside 33 = .ok (.getfield 101, 3) := by decide +kernel
theorem dX4_plainBeside_36 : decode cX4_plainBeside 36 = .ok (.ireturn, 1) := by decide +kernel
theorem dX4_plainBeside_37 : decode cX4_plainBeside 37 = .ok (.aload_n 0, 1) := by decide +kernel
theorem dX4_plainBeside_38 : decode cX4_plainBeside 38 = .ok (.getfield 101, 3) := by decide +kernel
theorem dX4_plainBeside_41 : decode cX4_plainBeside 41 = .ok (.aload_n 0, 1) := by decide +kernel
theorem dX4_plainBeside_42 : decode cX4_plainBeside 42 = .ok (.getfield 142, 3) := by decide +kernel
theorem dX4_plainBeside_45 : decode cX4_plainBeside 45 = .ok (.if_icmp .le 7, 3) := by decide +kernel
theorem dX4_plainBeside_48 : decode cX4_plainBeside 48 = .ok (.iconst 1, 1) := by decide +kernel
theorem dX4_plainBeside_49 : decode cX4_plainBeside 49 = .ok (.goto 4, 3) := by decide +kernel
theorem dX4_plainBeside_52 : decode cX4_plainBeside 52 = .ok (.iconst (-1), 1) := by decide +kernel
theorem dX4_plainBeside_53 : decode cX4_plainBeside 53 = .ok (.istore_n 1, 1) := by decide +kernel
theorem dX4_plainBeside_54 : decode cX4_plainBeside 54 = .ok (.aload_n 0, 1) := by decide +kernel
theorem dX4_plainBeside_55 : decode cX4_plainBeside 55 = .ok (.getfield 101, 3) := by decide +kernel
theorem dX4_plainBeside_58 : decode cX4_plainBeside 58 = .ok (.bipush 6, 2) := by decide +kernel
theorem dX4_plainBeside_60 : decode cX4_plainBeside 60 = .ok (.irem, 1) := by decide +kernel
theorem dX4_plainBeside_61 : decode cX4_plainBeside 61 = .ok (.iload_n 1, 1) := by decide +kernel
theorem dX4_plainBeside_62 : decode cX4_plainBeside 62 = .ok (.iadd, 1) := by decide +kernel
theorem dX4_plainBeside_63 : decode cX4_plainBeside 63 = .ok (.iconst 0, 1) := by decide +kernel
theorem dX4_plainBeside_64 : decode cX4_plainBeside 64 = .ok (.iconst 5, 1) := by decide +kernel
theorem dX4_plainBeside_65 : decode cX4_plainBeside 65 = .ok (.invokestatic 71, 3) := by decide +kernel
theorem dX4_plainBeside_68 : decode cX4_plainBeside 68 = .ok (.ifCond .eq 12, 3) := by decide +kernel
theorem dX4_plainBeside_71 : decode cX4_plainBeside 71 = .ok (.aload_n 0, 1) := by decide +kernel
theorem dX4_plainBeside_72 : decode cX4_plainBeside 72 = .ok (.getfield 101, 3) := by decide +kernel
theorem dX4_plainBeside_75 : decode cX4_plainBeside 75 = .ok (.iload_n 1, 1) := by decide +kernel
theorem dX4_plainBeside_76 : decode cX4_plainBeside 76 = .ok (.iadd, 1) := by decide +kernel
theorem dX4_plainBeside_77 : decode cX4_plainBeside 77 = .ok (.goto 7, 3) := by decide +kernel
theorem dX4_plainBeside_80 : decode cX4_plainBeside 80 = .ok (.aload_n 0, 1) := by decide +kernel
theorem dX4_plainBeside_81 : decode cX4_plainBeside 81 = .ok (.getfield 101, 3) := by decide +kernel
theorem dX4_plainBeside_84 : decode cX4_plainBeside 84 = .ok (.ireturn, 1) := by decide +kernel
theorem dX4_creepsBeside_0 : decode cX4_creepsBeside 0 = .ok (.aload_n 0, 1) := by decide +kernel
theorem dX4_creepsBeside_1 : decode cX4_creepsBeside 1 = .ok (.getfield 110, 3) := by decide +kernel
theorem dX4_creepsBeside_4 : decode cX4_creepsBeside 4 = .ok (.iconst 3, 1) := by decide +kernel
theorem dX4_creepsBeside_5 : decode cX4_creepsBeside 5 = .ok (.irem, 1) := by decide +kernel
theorem dX4_creepsBeside_6 : decode cX4_creepsBeside 6 = .ok (.ifCond .ne 25, 3) := by decide +kernel
theorem dX4_creepsBeside_9 : decode cX4_creepsBeside 9 = .ok (.aload_n 0, 1) := by decide +kernel
theorem dX4_creepsBeside_10 : decode cX4_creepsBeside 10 = .ok (.getfield 101, 3) := by decide +kernel
theorem dX4_creepsBeside_13 : decode cX4_creepsBeside 13 = .ok (.bipush 6, 2) := by decide +kernel
theorem dX4_creepsBeside_15 : decode cX4_creepsBeside 15 = .ok (.iadd, 1) := by decide +kernel
theorem dX4_creepsBeside_16 : decode cX4_creepsBeside 16 = .ok (.bipush 24, 2) := by decide +kernel
theorem dX4_creepsBeside_18 : decode cX4_creepsBeside 18 = .ok (.if_icmp .ge 13, 3) := by decide +kernel
theorem dX4_creepsBeside_21 : decode cX4_creepsBeside 21 = .ok (.aload_n 0, 1) := by decide +kernel
theorem dX4_creepsBeside_22 : decode cX4_creepsBeside 22 = .ok (.getfield 101, 3) := by decide +kernel
theorem dX4_creepsBeside_25 : decode cX4_creepsBeside 25 = .ok (.bipush 6, 2) := by decide +kernel
theorem dX4_creepsBeside_27 : decode cX4_creepsBeside 27 = .ok (.iadd, 1) := by decide +kernel
theorem dX4_creepsBeside_28 : decode cX4_creepsBeside 28 = .ok (.goto 7, 3) := by decide +kernel
theorem dX4_creepsBeside_31 : decode cX4_creepsBeside 31 = .ok (.aload_n 0, 1) := by decide +kernel
theorem dX4_creepsBeside_32 : decode cX4_creepsBeside 32 = .ok (.invokevirtual 148, 3) := by decide +kernel
theorem dX4_creepsBeside_35 : decode cX4_creepsBeside 35 = .ok (.ireturn, 1) := by decide +kernel
theorem dX4_leapsBeside_0 : decode cX4_leapsBeside 0 = .ok (.aload_n 0, 1) := by decide +kernel
theorem dX4_leapsBeside_1 : decode cX4_leapsBeside 1 = .ok (.invokevirtual 151, 3) := by decide +kernel
theorem dX4_leapsBeside_4 : decode cX4_leapsBeside 4 = .ok (.istore_n 1, 1) := by decide +kernel
theorem dX4_leapsBeside_5 : decode cX4_leapsBeside 5 = .ok (.iload_n 1, 1) := by decide +kernel
theorem dX4_leapsBeside_6 : decode cX4_leapsBeside 6 = .ok (.aload_n 0, 1) := by decide +kernel
theorem dX4_leapsBeside_7 : decode cX4_leapsBeside 7 = .ok (.getfield 101, 3) := by decide +kernel
theorem dX4_leapsBeside_10 : decode cX4_leapsBeside 10 = .ok (.if_icmp .eq 5, 3) := by decide +kernel
theorem dX4_leapsBeside_13 : decode cX4_leapsBeside 13 = .ok (.iload_n 1, 1) := by decide +kernel
theorem dX4_leapsBeside_14 : decode cX4_leapsBeside 14 = .ok (.ireturn, 1) := by decide +kernel
theorem dX4_leapsBeside_15 : decode cX4_leapsBeside 15 = .ok (.aload_n 0, 1) := by decide +kernel
theorem dX4_leapsBeside_16 : decode cX4_leapsBeside 16 = .ok (.getfield 101, 3) := by decide +kernel
theorem dX4_leapsBeside_19 : decode cX4_leapsBeside 19 = .ok (.bipush 6, 2) := by decide +kernel
theorem dX4_leapsBeside_21 : decode cX4_leapsBeside 21 = .ok (.idiv, 1) := by decide +kernel
theorem dX4_leapsBeside_22 : decode cX4_leapsBeside 22 = .ok (.bipush 6, 2) := by decide +kernel
theorem dX4_leapsBeside_24 : decode cX4_leapsBeside 24 = .ok (.imul, 1) := by decide +kernel
theorem dX4_leapsBeside_25 : decode cX4_leapsBeside 25 = .ok (.bipush 6, 2) := by decide +kernel
theorem dX4_leapsBeside_27 : decode cX4_leapsBeside 27 = .ok (.iadd, 1) := by decide +kernel
theorem dX4_leapsBeside_28 : decode cX4_leapsBeside 28 = .ok (.iconst 1, 1) := by decide +kernel
theorem dX4_leapsBeside_29 : decode cX4_leapsBeside 29 = .ok (.isub, 1) := by decide +kernel
theorem dX4_leapsBeside_30 : decode cX4_leapsBeside 30 = .ok (.aload_n 0, 1) := by decide +kernel
theorem dX4_leapsBeside_31 : decode cX4_leapsBeside 31 = .ok (.getfield 101, 3) := by decide +kernel
theorem dX4_leapsBeside_34 : decode cX4_leapsBeside 34 = .ok (.bipush 6, 2) := by decide +kernel
theorem dX4_leapsBeside_36 : decode cX4_leapsBeside 36 = .ok (.irem, 1) := by decide +kernel
theorem dX4_leapsBeside_37 : decode cX4_leapsBeside 37 = .ok (.isub, 1) := by decide +kernel
theorem dX4_leapsBeside_38 : decode cX4_leapsBeside 38 = .ok (.istore_n 2, 1) := by decide +kernel
theorem dX4_leapsBeside_39 : decode cX4_leapsBeside 39 = .ok (.aload_n 0, 1) := by decide +kernel
theorem dX4_leapsBeside_40 : decode cX4_leapsBeside 40 = .ok (.getfield 13, 3) := by decide +kernel
theorem dX4_leapsBeside_43 : decode cX4_leapsBeside 43 = .ok (.iload_n 2, 1) := by decide +kernel
theorem dX4_leapsBeside_44 : decode cX4_leapsBeside 44 = .ok (.iaload, 1) := by decide +kernel
theorem dX4_leapsBeside_45 : decode cX4_leapsBeside 45 = .ok (.ifCond .ne 7, 3) := by decide +kernel
theorem dX4_leapsBeside_48 : decode cX4_leapsBeside 48 = .ok (.iload_n 2, 1) := by decide +kernel
theorem dX4_leapsBeside_49 : decode cX4_leapsBeside 49 = .ok (.goto 7, 3) := by decide +kernel
theorem dX4_leapsBeside_52 : decode cX4_leapsBeside 52 = .ok (.aload_n 0, 1) := by decide +kernel
theorem dX4_leapsBeside_53 : decode cX4_leapsBeside 53 = .ok (.getfield 101, 3) := by decide +kernel
theorem dX4_leapsBeside_56 : decode cX4_leapsBeside 56 = .ok (.ireturn, 1) := by decide +kernel
theorem dX4_besideBy_0 : decode cX4_besideBy 0 = .ok (.aload_n 0, 1) := by decide +kernel
theorem dX4_besideBy_1 : decode cX4_besideBy 1 = .ok (.getfield 98, 3) := by decide +kernel
theorem dX4_besideBy_4 : decode cX4_besideBy 4 = .ok (.tableswitch 109 1 5 #[36, 41, 46, 51, 106], 36) := by decide +kernel
theorem dX4_besideBy_40 : decode cX4_besideBy 40 = .ok (.aload_n 0, 1) := by decide +kernel
theorem dX4_besideBy_41 : decode cX4_besideBy 41 = .ok (.invokevirtual 151, 3) := by decide +kernel
theorem dX4_besideBy_44 : decode cX4_besideBy 44 = .ok (.ireturn, 1) := by decide +kernel
theorem dX4_besideBy_45 : decode cX4_besideBy 45 = .ok (.aload_n 0, 1) := by decide +kernel
theorem dX4_besideBy_46 : decode cX4_besideBy 46 = .ok (.getfield 101, 3) := by decide +kernel
theorem dX4_besideBy_49 : decode cX4_besideBy 49 = .ok (.ireturn, 1) := by decide +kernel
theorem dX4_besideBy_50 : decode cX4_besideBy 50 = .ok (.aload_n 0, 1) := by decide +kernel
theorem dX4_besideBy_51 : decode cX4_besideBy 51 = .ok (.invokevirtual 154, 3) := by decide +kernel
theorem dX4_besideBy_54 : decode cX4_besideBy 54 = .ok (.ireturn, 1) := by decide +kernel
theorem dX4_besideBy_55 : decode cX4_besideBy 55 = .ok (.aload_n 0, 1) := by decide +kernel
theorem dX4_besideBy_56 : decode cX4_besideBy 56 = .ok (.getfield 101, 3) := by decide +kernel
theorem dX4_besideBy_59 : decode cX4_besideBy 59 = .ok (.bipush 6, 2) := by decide +kernel
theorem dX4_besideBy_61 : decode cX4_besideBy 61 = .ok (.irem, 1) := by decide +kernel
theorem dX4_besideBy_62 : decode cX4_besideBy 62 = .ok (.aload_n 0, 1) := by decide +kernel
theorem dX4_besideBy_63 : decode cX4_besideBy 63 = .ok (.getfield 16, 3) := by decide +kernel
theorem dX4_besideBy_66 : decode cX4_besideBy 66 = .ok (.iconst 3, 1) := by decide +kernel
theorem dX4_besideBy_67 : decode cX4_besideBy 67 = .ok (.iaload, 1) := by decide +kernel
theorem dX4_besideBy_68 : decode cX4_besideBy 68 = .ok (.if_icmp .ge 12, 3) := by decide +kernel
theorem dX4_besideBy_71 : decode cX4_besideBy 71 = .ok (.aload_n 0, 1) := by decide +kernel
theorem dX4_besideBy_72 : decode cX4_besideBy 72 = .ok (.getfield 101, 3) := by decide +kernel
theorem dX4_besideBy_75 : decode cX4_besideBy 75 = .ok (.iconst 1, 1) := by decide +kernel
theorem dX4_besideBy_76 : decode cX4_besideBy 76 = .ok (.iadd, 1) := by decide +kernel
theorem dX4_besideBy_77 : decode cX4_besideBy 77 = .ok (.goto 32, 3) := by decide +kernel
theorem dX4_besideBy_80 : decode cX4_besideBy 80 = .ok (.aload_n 0, 1) := by decide +kernel
theorem dX4_besideBy_81 : decode cX4_besideBy 81 = .ok (.getfield 101, 3) := by decide +kernel
theorem dX4_besideBy_84 : decode cX4_besideBy 84 = .ok (.bipush 6, 2) := by decide +kernel
theorem dX4_besideBy_86 : decode cX4_besideBy 86 = .ok (.irem, 1) := by decide +kernel
theorem dX4_besideBy_87 : decode cX4_besideBy 87 = .ok (.aload_n 0, 1) := by decide +kernel
theorem dX4_besideBy_88 : decode cX4_besideBy 88 = .ok (.getfield 16, 3) := by decide +kernel
theorem dX4_besideBy_91 : decode cX4_besideBy 91 = .ok (.iconst 3, 1) := by decide +kernel
theorem dX4_besideBy_92 : decode cX4_besideBy 92 = .ok (.iaload, 1) := by decide +kernel
theorem dX4_besideBy_93 : decode cX4_besideBy 93 = .ok (.if_icmp .le 12, 3) := by decide +kernel
theorem dX4_besideBy_96 : decode cX4_besideBy 96 = .ok (.aload_n 0, 1) := by decide +kernel
theorem dX4_besideBy_97 : decode cX4_besideBy 97 = .ok (.getfield 101, 3) := by decide +kernel
theorem dX4_besideBy_100 : decode cX4_besideBy 100 = .ok (.iconst 1, 1) := by decide +kernel
theorem dX4_besideBy_101 : decode cX4_besideBy 101 = .ok (.isub, 1) := by decide +kernel
theorem dX4_besideBy_102 : decode cX4_besideBy 102 = .ok (.goto 7, 3) := by decide +kernel
theorem dX4_besideBy_105 : decode cX4_besideBy 105 = .ok (.aload_n 0, 1) := by decide +kernel
theorem dX4_besideBy_106 : decode cX4_besideBy 106 = .ok (.getfield 101, 3) := by decide +kernel
theorem dX4_besideBy_109 : decode cX4_besideBy 109 = .ok (.ireturn, 1) := by decide +kernel
theorem dX4_besideBy_110 : decode cX4_besideBy 110 = .ok (.bipush 24, 2) := by decide +kernel
theorem dX4_besideBy_112 : decode cX4_besideBy 112 = .ok (.ireturn, 1) := by decide +kernel
theorem dX4_besideBy_113 : decode cX4_besideBy 113 = .ok (.aload_n 0, 1) := by decide +kernel
theorem dX4_besideBy_114 : decode cX4_besideBy 114 = .ok (.invokevirtual 148, 3) := by decide +kernel
theorem dX4_besideBy_117 : decode cX4_besideBy 117 = .ok (.ireturn, 1) := by decide +kernel
theorem dX4_struckBy_0 : decode cX4_struckBy 0 = .ok (.aload_n 0, 1) := by decide +kernel
theorem dX4_struckBy_1 : decode cX4_struckBy 1 = .ok (.getfield 98, 3) := by decide +kernel
theorem dX4_struckBy_4 : decode cX4_struckBy 4 = .ok (.iconst 3, 1) := by decide +kernel
theorem dX4_struckBy_5 : decode cX4_struckBy 5 = .ok (.if_icmp .ne 16, 3) := by decide +kernel
theorem dX4_struckBy_8 : decode cX4_struckBy 8 = .ok (.aload_n 0, 1) := by decide +kernel
theorem dX4_struckBy_9 : decode cX4_struckBy 9 = .ok (.getfield 101, 3) := by decide +kernel
theorem dX4_struckBy_12 : decode cX4_struckBy 12 = .ok (.bipush 7, 2) := by decide +kernel
theorem dX4_struckBy_14 : decode cX4_struckBy 14 = .ok (.iadd, 1) := by decide +kernel
theorem dX4_struckBy_15 : decode cX4_struckBy 15 = .ok (.bipush 24, 2) := by decide +kernel
theorem dX4_struckBy_17 : decode cX4_struckBy 17 = .ok (.irem, 1) := by decide +kernel
theorem dX4_struckBy_18 : decode cX4_struckBy 18 = .ok (.goto 33, 3) := by decide +kernel
theorem dX4_struckBy_21 : decode cX4_struckBy 21 = .ok (.aload_n 0, 1) := by decide +kernel
theorem dX4_struckBy_22 : decode cX4_struckBy 22 = .ok (.getfield 98, 3) := by decide +kernel
theorem dX4_struckBy_25 : decode cX4_struckBy 25 = .ok (.iconst 4, 1) := by decide +kernel
theorem dX4_struckBy_26 : decode cX4_struckBy 26 = .ok (.if_icmp .ne 23, 3) := by decide +kernel
theorem dX4_struckBy_29 : decode cX4_struckBy 29 = .ok (.aload_n 0, 1) := by decide +kernel
theorem dX4_struckBy_30 : decode cX4_struckBy 30 = .ok (.getfield 13, 3) := by decide +kernel
theorem dX4_struckBy_33 : decode cX4_struckBy 33 = .ok (.aload_n 0, 1) := by decide +kernel
theorem dX4_struckBy_34 : decode cX4_struckBy 34 = .ok (.getfield 101, 3) := by decide +kernel
theorem dX4_struckBy_37 : decode cX4_struckBy 37 = .ok (.iaload, 1) := by decide +kernel
theorem dX4_struckBy_38 : decode cX4_struckBy 38 = .ok (.iconst 3, 1) := by decide +kernel
theorem dX4_struckBy_39 : decode cX4_struckBy 39 = .ok (.if_icmp .ge 10, 3) := by decide +kernel
theorem dX4_struckBy_42 : decode cX4_struckBy 42 = .ok (.aload_n 0, 1) := by decide +kernel
theorem dX4_struckBy_43 : decode cX4_struckBy 43 = .ok (.getfield 101, 3) := by decide +kernel
theorem dX4_struckBy_46 : decode cX4_struckBy 46 = .ok (.goto 5, 3) := by decide +kernel
theorem dX4_struckBy_49 : decode cX4_struckBy 49 = .ok (.bipush 24, 2) := by decide +kernel
theorem dX4_struckBy_51 : decode cX4_struckBy 51 = .ok (.ireturn, 1) := by decide +kernel
theorem dX4_strokes_0 : decode cX4_strokes 0 = .ok (.aload_n 0, 1) := by decide +kernel
theorem dX4_strokes_1 : decode cX4_strokes 1 = .ok (.getfield 13, 3) := by decide +kernel
theorem dX4_strokes_4 : decode cX4_strokes 4 = .ok (.iload_n 1, 1) := by decide +kernel
theorem dX4_strokes_5 : decode cX4_strokes 5 = .ok (.aload_n 0, 1) := by decide +kernel
theorem dX4_strokes_6 : decode cX4_strokes 6 = .ok (.getfield 13, 3) := by decide +kernel
theorem dX4_strokes_9 : decode cX4_strokes 9 = .ok (.iload_n 1, 1) := by decide +kernel
theorem dX4_strokes_10 : decode cX4_strokes 10 = .ok (.iaload, 1) := by decide +kernel
theorem dX4_strokes_11 : decode cX4_strokes 11 = .ok (.bipush 9, 2) := by decide +kernel
theorem dX4_strokes_13 : decode cX4_strokes 13 = .ok (.if_icmp .ge 14, 3) := by decide +kernel
theorem dX4_strokes_16 : decode cX4_strokes 16 = .ok (.aload_n 0, 1) := by decide +kernel
theorem dX4_strokes_17 : decode cX4_strokes 17 = .ok (.getfield 13, 3) := by decide +kernel
theorem dX4_strokes_20 : decode cX4_strokes 20 = .ok (.iload_n 1, 1) := by decide +kernel
theorem dX4_strokes_21 : decode cX4_strokes 21 = .ok (.iaload, 1) := by decide +kernel
theorem dX4_strokes_22 : decode cX4_strokes 22 = .ok (.iconst 1, 1) := by decide +kernel
theorem dX4_strokes_23 : decode cX4_strokes 23 = .ok (.iadd, 1) := by decide +kernel
theorem dX4_strokes_24 : decode cX4_strokes 24 = .ok (.goto 5, 3) := by decide +kernel
theorem dX4_strokes_27 : decode cX4_strokes 27 = .ok (.bipush 9, 2) := by decide +kernel
theorem dX4_strokes_29 : decode cX4_strokes 29 = .ok (.iastore, 1) := by decide +kernel
theorem dX4_strokes_30 : decode cX4_strokes 30 = .ok (.aload_n 0, 1) := by decide +kernel
theorem dX4_strokes_31 : decode cX4_strokes 31 = .ok (.iload_n 1, 1) := by decide +kernel
theorem dX4_strokes_32 : decode cX4_strokes 32 = .ok (.putfield 142, 3) := by decide +kernel
theorem dX4_strokes_35 : decode cX4_strokes 35 = .ok (.aload_n 0, 1) := by decide +kernel
theorem dX4_strokes_36 : decode cX4_strokes 36 = .ok (.getfield 101, 3) := by decide +kernel
theorem dX4_strokes_39 : decode cX4_strokes 39 = .ok (.bipush 24, 2) := by decide +kernel
theorem dX4_strokes_41 : decode cX4_strokes 41 = .ok (.if_icmp .eq 29, 3) := by decide +kernel
theorem dX4_strokes_44 : decode cX4_strokes 44 = .ok (.aload_n 0, 1) := by decide +kernel
theorem dX4_strokes_45 : decode cX4_strokes 45 = .ok (.aload_n 0, 1) := by decide +kernel
theorem dX4_strokes_46 : decode cX4_strokes 46 = .ok (.getfield 101, 3) := by decide +kernel
theorem dX4_strokes_49 : decode cX4_strokes 49 = .ok (.aload_n 0, 1) := by decide +kernel
theorem dX4_strokes_50 : decode cX4_strokes 50 = .ok (.getfield 142, 3) := by decide +kernel
theorem dX4_strokes_53 : decode cX4_strokes 53 = .ok (.if_icmp .ne 10, 3) := by decide +kernel
theorem dX4_strokes_56 : decode cX4_strokes 56 = .ok (.aload_n 0, 1) := by decide +kernel
theorem dX4_strokes_57 : decode cX4_strokes 57 = .ok (.invokevirtual 157, 3) := by decide +kernel
theorem dX4_strokes_60 : decode cX4_strokes 60 = .ok (.goto 7, 3) := by decide +kernel
theorem dX4_strokes_63 : decode cX4_strokes 63 = .ok (.aload_n 0, 1) := by decide +kernel
theorem dX4_strokes_64 : decode cX4_strokes 64 = .ok (.invokevirtual 160, 3) := by decide +kernel
theorem dX4_strokes_67 : decode cX4_strokes 67 = .ok (.putfield 101, 3) := by decide +kernel
theorem dX4_strokes_70 : decode cX4_strokes 70 = .ok (.aload_n 0, 1) := by decide +kernel
theorem dX4_strokes_71 : decode cX4_strokes 71 = .ok (.dup, 1) := by decide +kernel
theorem dX4_strokes_72 : decode cX4_strokes 72 = .ok (.getfield 110, 3) := by decide +kernel
theorem dX4_strokes_75 : decode cX4_strokes 75 = .ok (.iconst 1, 1) := by decide +kernel
theorem dX4_strokes_76 : decode cX4_strokes 76 = .ok (.iadd, 1) := by decide +kernel
theorem dX4_strokes_77 : decode cX4_strokes 77 = .ok (.putfield 110, 3) := by decide +kernel
theorem dX4_strokes_80 : decode cX4_strokes 80 = .ok (.return_, 1) := by decide +kernel
theorem dX4_wordBy_0 : decode cX4_wordBy 0 = .ok (.iload_n 2, 1) := by decide +kernel
theorem dX4_wordBy_1 : decode cX4_wordBy 1 = .ok (.bipush 24, 2) := by decide +kernel
theorem dX4_wordBy_3 : decode cX4_wordBy 3 = .ok (.if_icmp .ne 6, 3) := by decide +kernel
theorem dX4_wordBy_6 : decode cX4_wordBy 6 = .ok (.bipush 9, 2) := by decide +kernel
theorem dX4_wordBy_8 : decode cX4_wordBy 8 = .ok (.ireturn, 1) := by decide +kernel
theorem dX4_wordBy_9 : decode cX4_wordBy 9 = .ok (.iload_n 2, 1) := by decide +kernel
theorem dX4_wordBy_10 : decode cX4_wordBy 10 = .ok (.bipush 6, 2) := by decide +kernel
theorem dX4_wordBy_12 : decode cX4_wordBy 12 = .ok (.idiv, 1) := by decide +kernel
theorem dX4_wordBy_13 : decode cX4_wordBy 13 = .ok (.iload_n 1, 1) := by decide +kernel
theorem dX4_wordBy_14 : decode cX4_wordBy 14 = .ok (.bipush 6, 2) := by decide +kernel
theorem dX4_wordBy_16 : decode cX4_wordBy 16 = .ok (.idiv, 1) := by decide +kernel
theorem dX4_wordBy_17 : decode cX4_wordBy 17 = .ok (.isub, 1) := by decide +kernel
theorem dX4_wordBy_18 : decode cX4_wordBy 18 = .ok (.istore 5, 2) := by decide +kernel
theorem dX4_wordBy_20 : decode cX4_wordBy 20 = .ok (.iload_n 2, 1) := by decide +kernel
theorem dX4_wordBy_21 : decode cX4_wordBy 21 = .ok (.bipush 6, 2) := by decide +kernel
theorem dX4_wordBy_23 : decode cX4_wordBy 23 = .ok (.irem, 1) := by decide +kernel
theorem dX4_wordBy_24 : decode cX4_wordBy 24 = .ok (.iload_n 1, 1) := by decide +kernel
theorem dX4_wordBy_25 : decode cX4_wordBy 25 = .ok (.bipush 6, 2) := by decide +kernel
theorem dX4_wordBy_27 : decode cX4_wordBy 27 = .ok (.irem, 1) := by decide +kernel
theorem dX4_wordBy_28 : decode cX4_wordBy 28 = .ok (.isub, 1) := by decide +kernel
theorem dX4_wordBy_29 : decode cX4_wordBy 29 = .ok (.istore 6, 2) := by decide +kernel
theorem dX4_wordBy_31 : decode cX4_wordBy 31 = .ok (.iload 5, 2) := by decide +kernel
theorem dX4_wordBy_33 : decode cX4_wordBy 33 = .ok (.ifCond .eq 31, 3) := by decide +kernel
theorem dX4_wordBy_36 : decode cX4_wordBy 36 = .ok (.iload 5, 2) := by decide +kernel
theorem dX4_wordBy_38 : decode cX4_wordBy 38 = .ok (.iconst 0, 1) := by decide +kernel
theorem dX4_wordBy_39 : decode cX4_wordBy 39 = .ok (.invokestatic 48, 3) := by decide +kernel
theorem dX4_wordBy_42 : decode cX4_wordBy 42 = .ok (.iload 4, 2) := by decide +kernel
theorem dX4_wordBy_44 : decode cX4_wordBy 44 = .ok (.if_icmp .lt 7, 3) := by decide +kernel
theorem dX4_wordBy_47 : decode cX4_wordBy 47 = .ok (.iconst 4, 1) := by decide +kernel
theorem dX4_wordBy_48 : decode cX4_wordBy 48 = .ok (.goto 4, 3) := by decide +kernel
theorem dX4_wordBy_51 : decode cX4_wordBy 51 = .ok (.iconst 0, 1) := by decide +kernel
theorem dX4_wordBy_52 : decode cX4_wordBy 52 = .ok (.iload 5, 2) := by decide +kernel
theorem dX4_wordBy_54 : decode cX4_wordBy 54 = .ok (.ifCond .ge 7, 3) := by decide +kernel
theorem dX4_wordBy_57 : decode cX4_wordBy 57 = .ok (.iconst 0, 1) := by decide +kernel
theorem dX4_wordBy_58 : decode cX4_wordBy 58 = .ok (.goto 4, 3) := by decide +kernel
theorem dX4_wordBy_61 : decode cX4_wordBy 61 = .ok (.iconst 1, 1) := by decide +kernel
theorem dX4_wordBy_62 : decode cX4_wordBy 62 = .ok (.iadd, 1) := by decide +kernel
theorem dX4_wordBy_63 : decode cX4_wordBy 63 = .ok (.ireturn, 1) := by decide +kernel
theorem dX4_wordBy_64 : decode cX4_wordBy 64 = .ok (.iload 6, 2) := by decide +kernel
theorem dX4_wordBy_66 : decode cX4_wordBy 66 = .ok (.ifCond .ne 6, 3) := by decide +kernel
theorem dX4_wordBy_69 : decode cX4_wordBy 69 = .ok (.bipush 8, 2) := by decide +kernel
theorem dX4_wordBy_71 : decode cX4_wordBy 71 = .ok (.ireturn, 1) := by decide +kernel
theorem dX4_wordBy_72 : decode cX4_wordBy 72 = .ok (.iload 6, 2) := by decide +kernel
theorem dX4_wordBy_74 : decode cX4_wordBy 74 = .ok (.ifCond .ge 7, 3) := by decide +kernel
theorem dX4_wordBy_77 : decode cX4_wordBy 77 = .ok (.iconst 1, 1) := by decide +kernel
theorem dX4_wordBy_78 : decode cX4_wordBy 78 = .ok (.goto 4, 3) := by decide +kernel
theorem dX4_wordBy_81 : decode cX4_wordBy 81 = .ok (.iconst 0, 1) := by decide +kernel
theorem dX4_wordBy_82 : decode cX4_wordBy 82 = .ok (.iload_n 3, 1) := by decide +kernel
theorem dX4_wordBy_83 : decode cX4_wordBy 83 = .ok (.ifCond .ne 7, 3) := by decide +kernel
theorem dX4_wordBy_86 : decode cX4_wordBy 86 = .ok (.iconst 1, 1) := by decide +kernel
theorem dX4_wordBy_87 : decode cX4_wordBy 87 = .ok (.goto 4, 3) := by decide +kernel
theorem dX4_wordBy_90 : decode cX4_wordBy 90 = .ok (.iconst 0, 1) := by decide +kernel
theorem dX4_wordBy_91 : decode cX4_wordBy 91 = .ok (.if_icmp .ne 7, 3) := by decide +kernel
theorem dX4_wordBy_94 : decode cX4_wordBy 94 = .ok (.iconst 1, 1) := by decide +kernel
theorem dX4_wordBy_95 : decode cX4_wordBy 95 = .ok (.goto 4, 3) := by decide +kernel
theorem dX4_wordBy_98 : decode cX4_wordBy 98 = .ok (.iconst 0, 1) := by decide +kernel
theorem dX4_wordBy_99 : decode cX4_wordBy 99 = .ok (.istore 7, 2) := by decide +kernel
theorem dX4_wordBy_101 : decode cX4_wordBy 101 = .ok (.iload 6, 2) := by decide +kernel
theorem dX4_wordBy_103 : decode cX4_wordBy 103 = .ok (.iconst 0, 1) := by decide +kernel
theorem dX4_wordBy_104 : decode cX4_wordBy 104 = .ok (.invokestatic 48, 3) := by decide +kernel
theorem dX4_wordBy_107 : decode cX4_wordBy 107 = .ok (.iload 4, 2) := by decide +kernel
theorem dX4_wordBy_109 : decode cX4_wordBy 109 = .ok (.if_icmp .lt 8, 3) := by decide +kernel
theorem dX4_wordBy_112 : decode cX4_wordBy 112 = .ok (.bipush 6, 2) := by decide +kernel
theorem dX4_wordBy_114 : decode cX4_wordBy 114 = .ok (.goto 4, 3) := by decide +kernel
theorem dX4_wordBy_117 : decode cX4_wordBy 117 = .ok (.iconst 2, 1) := by decide +kernel
theorem dX4_wordBy_118 : decode cX4_wordBy 118 = .ok (.iload 7, 2) := by decide +kernel
theorem dX4_wordBy_120 : decode cX4_wordBy 120 = .ok (.ifCond .eq 7, 3) := by decide +kernel
theorem dX4_wordBy_123 : decode cX4_wordBy 123 = .ok (.iconst 0, 1) := by decide +kernel
theorem dX4_wordBy_124 : decode cX4_wordBy 124 = .ok (.goto 4, 3) := by decide +kernel
theorem dX4_wordBy_127 : decode cX4_wordBy 127 = .ok (.iconst 1, 1) := by decide +kernel
theorem dX4_wordBy_128 : decode cX4_wordBy 128 = .ok (.iadd, 1) := by decide +kernel
theorem dX4_wordBy_129 : decode cX4_wordBy 129 = .ok (.ireturn, 1) := by decide +kernel
theorem dX4_wordFrom_0 : decode cX4_wordFrom 0 = .ok (.aload_n 0, 1) := by decide +kernel
theorem dX4_wordFrom_1 : decode cX4_wordFrom 1 = .ok (.iload_n 1, 1) := by decide +kernel
theorem dX4_wordFrom_2 : decode cX4_wordFrom 2 = .ok (.iload_n 2, 1) := by decide +kernel
theorem dX4_wordFrom_3 : decode cX4_wordFrom 3 = .ok (.aload_n 0, 1) := by decide +kernel
theorem dX4_wordFrom_4 : decode cX4_wordFrom 4 = .ok (.getfield 16, 3) := by decide +kernel
theorem dX4_wordFrom_7 : decode cX4_wordFrom 7 = .ok (.iconst 0, 1) := by decide +kernel
theorem dX4_wordFrom_8 : decode cX4_wordFrom 8 = .ok (.iaload, 1) := by decide +kernel
theorem dX4_wordFrom_9 : decode cX4_wordFrom 9 = .ok (.aload_n 0, 1) := by decide +kernel
theorem dX4_wordFrom_10 : decode cX4_wordFrom 10 = .ok (.getfield 16, 3) := by decide +kernel
theorem dX4_wordFrom_13 : decode cX4_wordFrom 13 = .ok (.iconst 2, 1) := by decide +kernel
theorem dX4_wordFrom_14 : decode cX4_wordFrom 14 = .ok (.iaload, 1) := by decide +kernel
theorem dX4_wordFrom_15 : decode cX4_wordFrom 15 = .ok (.invokevirtual 163, 3) := by decide +kernel
theorem dX4_wordFrom_18 : decode cX4_wordFrom 18 = .ok (.ireturn, 1) := by decide +kernel
theorem dX4_itch_0 : decode cX4_itch 0 = .ok (.iload_n 1, 1) := by decide +kernel
theorem dX4_itch_1 : decode cX4_itch 1 = .ok (.iconst 0, 1) := by decide +kernel
theorem dX4_itch_2 : decode cX4_itch 2 = .ok (.iconst 1, 1) := by decide +kernel
theorem dX4_itch_3 : decode cX4_itch 3 = .ok (.invokestatic 71, 3) := by decide +kernel
theorem dX4_itch_6 : decode cX4_itch 6 = .ok (.ifCond .ne 10, 3) := by decide +kernel
theorem dX4_itch_9 : decode cX4_itch 9 = .ok (.aload_n 0, 1) := by decide +kernel
theorem dX4_itch_10 : decode cX4_itch 10 = .ok (.bipush (-2), 2) := by decide +kernel
theorem dX4_itch_12 : decode cX4_itch 12 = .ok (.invokevirtual 60, 3) := by decide +kernel
theorem dX4_itch_15 : decode cX4_itch 15 = .ok (.ireturn, 1) := by decide +kernel
theorem dX4_itch_16 : decode cX4_itch 16 = .ok (.iload_n 1, 1) := by decide +kernel
theorem dX4_itch_17 : decode cX4_itch 17 = .ok (.ifCond .ne 10, 3) := by decide +kernel
theorem dX4_itch_20 : decode cX4_itch 20 = .ok (.aload_n 0, 1) := by decide +kernel
theorem dX4_itch_21 : decode cX4_itch 21 = .ok (.getfield 98, 3) := by decide +kernel
theorem dX4_itch_24 : decode cX4_itch 24 = .ok (.goto 7, 3) := by decide +kernel
theorem dX4_itch_27 : decode cX4_itch 27 = .ok (.aload_n 0, 1) := by decide +kernel
theorem dX4_itch_28 : decode cX4_itch 28 = .ok (.getfield 101, 3) := by decide +kernel
theorem dX4_itch_31 : decode cX4_itch 31 = .ok (.ireturn, 1) := by decide +kernel
theorem dX4_sore_0 : decode cX4_sore 0 = .ok (.iload_n 1, 1) := by decide +kernel
theorem dX4_sore_1 : decode cX4_sore 1 = .ok (.invokestatic 104, 3) := by decide +kernel
theorem dX4_sore_4 : decode cX4_sore 4 = .ok (.ifCond .eq 12, 3) := by decide +kernel
theorem dX4_sore_7 : decode cX4_sore 7 = .ok (.aload_n 0, 1) := by decide +kernel
theorem dX4_sore_8 : decode cX4_sore 8 = .ok (.getfield 13, 3) := by decide +kernel
theorem dX4_sore_11 : decode cX4_sore 11 = .ok (.iload_n 1, 1) := by decide +kernel
theorem dX4_sore_12 : decode cX4_sore 12 = .ok (.iaload, 1) := by decide +kernel
theorem dX4_sore_13 : decode cX4_sore 13 = .ok (.goto 8, 3) := by decide +kernel
theorem dX4_sore_16 : decode cX4_sore 16 = .ok (.aload_n 0, 1) := by decide +kernel
theorem dX4_sore_17 : decode cX4_sore 17 = .ok (.iconst (-1), 1) := by decide +kernel
theorem dX4_sore_18 : decode cX4_sore 18 = .ok (.invokevirtual 60, 3) := by decide +kernel
theorem dX4_sore_21 : decode cX4_sore 21 = .ok (.ireturn, 1) := by decide +kernel
theorem dX4_heal_0 : decode cX4_heal 0 = .ok (.iload_n 1, 1) := by decide +kernel
theorem dX4_heal_1 : decode cX4_heal 1 = .ok (.invokestatic 104, 3) := by decide +kernel
theorem dX4_heal_4 : decode cX4_heal 4 = .ok (.ifCond .ne 9, 3) := by decide +kernel
theorem dX4_heal_7 : decode cX4_heal 7 = .ok (.aload_n 0, 1) := by decide +kernel
theorem dX4_heal_8 : decode cX4_heal 8 = .ok (.iconst (-1), 1) := by decide +kernel
theorem dX4_heal_9 : decode cX4_heal 9 = .ok (.invokevirtual 60, 3) := by decide +kernel
theorem dX4_heal_12 : decode cX4_heal 12 = .ok (.ireturn, 1) := by decide +kernel
theorem dX4_heal_13 : decode cX4_heal 13 = .ok (.aload_n 0, 1) := by decide +kernel
theorem dX4_heal_14 : decode cX4_heal 14 = .ok (.getfield 13, 3) := by decide +kernel
theorem dX4_heal_17 : decode cX4_heal 17 = .ok (.iload_n 1, 1) := by decide +kernel
theorem dX4_heal_18 : decode cX4_heal 18 = .ok (.iaload, 1) := by decide +kernel
theorem dX4_heal_19 : decode cX4_heal 19 = .ok (.istore_n 2, 1) := by decide +kernel
theorem dX4_heal_20 : decode cX4_heal 20 = .ok (.aload_n 0, 1) := by decide +kernel
theorem dX4_heal_21 : decode cX4_heal 21 = .ok (.getfield 13, 3) := by decide +kernel
theorem dX4_heal_24 : decode cX4_heal 24 = .ok (.iload_n 1, 1) := by decide +kernel
theorem dX4_heal_25 : decode cX4_heal 25 = .ok (.iconst 0, 1) := by decide +kernel
theorem dX4_heal_26 : decode cX4_heal 26 = .ok (.iastore, 1) := by decide +kernel
theorem dX4_heal_27 : decode cX4_heal 27 = .ok (.iload_n 2, 1) := by decide +kernel
theorem dX4_heal_28 : decode cX4_heal 28 = .ok (.ireturn, 1) := by decide +kernel
theorem dX4_he_0 : decode cX4_he 0 = .ok (.iload_n 1, 1) := by decide +kernel
theorem dX4_he_1 : decode cX4_he 1 = .ok (.iconst 0, 1) := by decide +kernel
theorem dX4_he_2 : decode cX4_he 2 = .ok (.iconst 3, 1) := by decide +kernel
theorem dX4_he_3 : decode cX4_he 3 = .ok (.invokestatic 71, 3) := by decide +kernel
theorem dX4_he_6 : decode cX4_he 6 = .ok (.ifCond .ne 8, 3) := by decide +kernel
theorem dX4_he_9 : decode cX4_he 9 = .ok (.bipush (-2), 2) := by decide +kernel
theorem dX4_he_11 : decode cX4_he 11 = .ok (.goto 15, 3) := by decide +kernel
theorem dX4_he_14 : decode cX4_he 14 = .ok (.iload_n 2, 1) := by decide +kernel
theorem dX4_he_15 : decode cX4_he 15 = .ok (.iload_n 1, 1) := by decide +kernel
theorem dX4_he_16 : decode cX4_he 16 = .ok (.invokestatic 92, 3) := by decide +kernel
theorem dX4_he_19 : decode cX4_he 19 = .ok (.iload_n 1, 1) := by decide +kernel
theorem dX4_he_20 : decode cX4_he 20 = .ok (.invokestatic 95, 3) := by decide +kernel
theorem dX4_he_23 : decode cX4_he 23 = .ok (.invokestatic 52, 3) := by decide +kernel
theorem dX4_he_26 : decode cX4_he 26 = .ok (.istore_n 3, 1) := by decide +kernel
theorem dX4_he_27 : decode cX4_he 27 = .ok (.iload_n 3, 1) := by decide +kernel
theorem dX4_he_28 : decode cX4_he 28 = .ok (.ifCond .eq 9, 3) := by decide +kernel
theorem dX4_he_31 : decode cX4_he 31 = .ok (.aload_n 0, 1) := by decide +kernel
theorem dX4_he_32 : decode cX4_he 32 = .ok (.iload_n 3, 1) := by decide +kernel
theorem dX4_he_33 : decode cX4_he 33 = .ok (.invokevirtual 60, 3) := by decide +kernel
theorem dX4_he_36 : decode cX4_he 36 = .ok (.ireturn, 1) := by decide +kernel
theorem dX4_he_37 : decode cX4_he 37 = .ok (.aload_n 0, 1) := by decide +kernel
theorem dX4_he_38 : decode cX4_he 38 = .ok (.getfield 16, 3) := by decide +kernel
theorem dX4_he_41 : decode cX4_he 41 = .ok (.iload_n 1, 1) := by decide +kernel
theorem dX4_he_42 : decode cX4_he 42 = .ok (.iaload, 1) := by decide +kernel
theorem dX4_he_43 : decode cX4_he 43 = .ok (.istore 4, 2) := by decide +kernel
theorem dX4_he_45 : decode cX4_he 45 = .ok (.aload_n 0, 1) := by decide +kernel
theorem dX4_he_46 : decode cX4_he 46 = .ok (.getfield 16, 3) := by decide +kernel
theorem dX4_he_49 : decode cX4_he 49 = .ok (.iload_n 1, 1) := by decide +kernel
theorem dX4_he_50 : decode cX4_he 50 = .ok (.iload_n 2, 1) := by decide +kernel
theorem dX4_he_51 : decode cX4_he 51 = .ok (.iastore, 1) := by decide +kernel
theorem dX4_he_52 : decode cX4_he 52 = .ok (.iload 4, 2) := by decide +kernel
theorem dX4_he_54 : decode cX4_he 54 = .ok (.ireturn, 1) := by decide +kernel
theorem dX4_stroke_0 : decode cX4_stroke 0 = .ok (.iload_n 1, 1) := by decide +kernel
theorem dX4_stroke_1 : decode cX4_stroke 1 = .ok (.invokestatic 104, 3) := by decide +kernel
theorem dX4_stroke_4 : decode cX4_stroke 4 = .ok (.ifCond .ne 7, 3) := by decide +kernel
theorem dX4_stroke_7 : decode cX4_stroke 7 = .ok (.iconst (-1), 1) := by decide +kernel
theorem dX4_stroke_8 : decode cX4_stroke 8 = .ok (.goto 19, 3) := by decide +kernel
theorem dX4_stroke_11 : decode cX4_stroke 11 = .ok (.aload_n 0, 1) := by decide +kernel
theorem dX4_stroke_12 : decode cX4_stroke 12 = .ok (.getfield 110, 3) := by decide +kernel
theorem dX4_stroke_15 : decode cX4_stroke 15 = .ok (.sipush 999, 3) := by decide +kernel
theorem dX4_stroke_18 : decode cX4_stroke 18 = .ok (.if_icmp .ne 8, 3) := by decide +kernel
theorem dX4_stroke_21 : decode cX4_stroke 21 = .ok (.bipush (-6), 2) := by decide +kernel
theorem dX4_stroke_23 : decode cX4_stroke 23 = .ok (.goto 4, 3) := by decide +kernel
theorem dX4_stroke_26 : decode cX4_stroke 26 = .ok (.iconst 0, 1) := by decide +kernel
theorem dX4_stroke_27 : decode cX4_stroke 27 = .ok (.istore_n 2, 1) := by decide +kernel
theorem dX4_stroke_28 : decode cX4_stroke 28 = .ok (.iload_n 2, 1) := by decide +kernel
theorem dX4_stroke_29 : decode cX4_stroke 29 = .ok (.ifCond .eq 9, 3) := by decide +kernel
theorem dX4_stroke_32 : decode cX4_stroke 32 = .ok (.aload_n 0, 1) := by decide +kernel
theorem dX4_stroke_33 : decode cX4_stroke 33 = .ok (.iload_n 2, 1) := by decide +kernel
theorem dX4_stroke_34 : decode cX4_stroke 34 = .ok (.invokevirtual 60, 3) := by decide +kernel
theorem dX4_stroke_37 : decode cX4_stroke 37 = .ok (.ireturn, 1) := by decide +kernel
theorem dX4_stroke_38 : decode cX4_stroke 38 = .ok (.aload_n 0, 1) := by decide +kernel
theorem dX4_stroke_39 : decode cX4_stroke 39 = .ok (.iload_n 1, 1) := by decide +kernel
theorem dX4_stroke_40 : decode cX4_stroke 40 = .ok (.invokevirtual 113, 3) := by decide +kernel
theorem dX4_stroke_43 : decode cX4_stroke 43 = .ok (.aload_n 0, 1) := by decide +kernel
theorem dX4_stroke_44 : decode cX4_stroke 44 = .ok (.getfield 101, 3) := by decide +kernel
theorem dX4_stroke_47 : decode cX4_stroke 47 = .ok (.ireturn, 1) := by decide +kernel
theorem dX4_far_0 : decode cX4_far 0 = .ok (.iload_n 1, 1) := by decide +kernel
theorem dX4_far_1 : decode cX4_far 1 = .ok (.invokestatic 104, 3) := by decide +kernel
theorem dX4_far_4 : decode cX4_far 4 = .ok (.ifCond .eq 18, 3) := by decide +kernel
theorem dX4_far_7 : decode cX4_far 7 = .ok (.iload_n 2, 1) := by decide +kernel
theorem dX4_far_8 : decode cX4_far 8 = .ok (.invokestatic 104, 3) := by decide +kernel
theorem dX4_far_11 : decode cX4_far 11 = .ok (.ifCond .eq 11, 3) := by decide +kernel
theorem dX4_far_14 : decode cX4_far 14 = .ok (.iload_n 1, 1) := by decide +kernel
theorem dX4_far_15 : decode cX4_far 15 = .ok (.iload_n 2, 1) := by decide +kernel
theorem dX4_far_16 : decode cX4_far 16 = .ok (.invokestatic 167, 3) := by decide +kernel
theorem dX4_far_19 : decode cX4_far 19 = .ok (.goto 8, 3) := by decide +kernel
theorem dX4_far_22 : decode cX4_far 22 = .ok (.aload_n 0, 1) := by decide +kernel
theorem dX4_far_23 : decode cX4_far 23 = .ok (.iconst (-1), 1) := by decide +kernel
theorem dX4_far_24 : decode cX4_far 24 = .ok (.invokevirtual 60, 3) := by decide +kernel
theorem dX4_far_27 : decode cX4_far 27 = .ok (.ireturn, 1) := by decide +kernel
theorem dX4_say_0 : decode cX4_say 0 = .ok (.aload_n 0, 1) := by decide +kernel
theorem dX4_say_1 : decode cX4_say 1 = .ok (.aload_n 0, 1) := by decide +kernel
theorem dX4_say_2 : decode cX4_say 2 = .ok (.getfield 142, 3) := by decide +kernel
theorem dX4_say_5 : decode cX4_say 5 = .ok (.aload_n 0, 1) := by decide +kernel
theorem dX4_say_6 : decode cX4_say 6 = .ok (.getfield 101, 3) := by decide +kernel
theorem dX4_say_9 : decode cX4_say 9 = .ok (.invokevirtual 170, 3) := by decide +kernel
theorem dX4_say_12 : decode cX4_say 12 = .ok (.ireturn, 1) := by decide +kernel
theorem dX4_word_0 : decode cX4_word 0 = .ok (.iload_n 1, 1) := by decide +kernel
theorem dX4_word_1 : decode cX4_word 1 = .ok (.invokestatic 104, 3) := by decide +kernel
theorem dX4_word_4 : decode cX4_word 4 = .ok (.ifCond .eq 19, 3) := by decide +kernel
theorem dX4_word_7 : decode cX4_word 7 = .ok (.iload_n 2, 1) := by decide +kernel
theorem dX4_word_8 : decode cX4_word 8 = .ok (.invokestatic 104, 3) := by decide +kernel
theorem dX4_word_11 : decode cX4_word 11 = .ok (.ifCond .eq 12, 3) := by decide +kernel
theorem dX4_word_14 : decode cX4_word 14 = .ok (.aload_n 0, 1) := by decide +kernel
theorem dX4_word_15 : decode cX4_word 15 = .ok (.iload_n 1, 1) := by decide +kernel
theorem dX4_word_16 : decode cX4_word 16 = .ok (.iload_n 2, 1) := by decide +kernel
theorem dX4_word_17 : decode cX4_word 17 = .ok (.invokevirtual 170, 3) := by decide +kernel
theorem dX4_word_20 : decode cX4_word 20 = .ok (.goto 8, 3) := by decide +kernel
theorem dX4_word_23 : decode cX4_word 23 = .ok (.aload_n 0, 1) := by decide +kernel
theorem dX4_word_24 : decode cX4_word 24 = .ok (.iconst (-1), 1) := by decide +kernel
theorem dX4_word_25 : decode cX4_word 25 = .ok (.invokevirtual 60, 3) := by decide +kernel
theorem dX4_word_28 : decode cX4_word 28 = .ok (.ireturn, 1) := by decide +kernel
theorem dX4_behind_0 : decode cX4_behind 0 = .ok (.iload_n 1, 1) := by decide +kernel
theorem dX4_behind_1 : decode cX4_behind 1 = .ok (.invokestatic 104, 3) := by decide +kernel
theorem dX4_behind_4 : decode cX4_behind 4 = .ok (.ifCond .ne 7, 3) := by decide +kernel
theorem dX4_behind_7 : decode cX4_behind 7 = .ok (.iconst (-1), 1) := by decide +kernel
theorem dX4_behind_8 : decode cX4_behind 8 = .ok (.goto 10, 3) := by decide +kernel
theorem dX4_behind_11 : decode cX4_behind 11 = .ok (.iload_n 2, 1) := by decide +kernel
theorem dX4_behind_12 : decode cX4_behind 12 = .ok (.iconst 0, 1) := by decide +kernel
theorem dX4_behind_13 : decode cX4_behind 13 = .ok (.bipush 20, 2) := by decide +kernel
theorem dX4_behind_15 : decode cX4_behind 15 = .ok (.invokestatic 52, 3) := by decide +kernel
theorem dX4_behind_18 : decode cX4_behind 18 = .ok (.istore_n 3, 1) := by decide +kernel
theorem dX4_behind_19 : decode cX4_behind 19 = .ok (.iload_n 3, 1) := by decide +kernel
theorem dX4_behind_20 : decode cX4_behind 20 = .ok (.ifCond .eq 9, 3) := by decide +kernel
theorem dX4_behind_23 : decode cX4_behind 23 = .ok (.aload_n 0, 1) := by decide +kernel
theorem dX4_behind_24 : decode cX4_behind 24 = .ok (.iload_n 3, 1) := by decide +kernel
theorem dX4_behind_25 : decode cX4_behind 25 = .ok (.invokevirtual 60, 3) := by decide +kernel
theorem dX4_behind_28 : decode cX4_behind 28 = .ok (.ireturn, 1) := by decide +kernel
theorem dX4_behind_29 : decode cX4_behind 29 = .ok (.aload_n 0, 1) := by decide +kernel
theorem dX4_behind_30 : decode cX4_behind 30 = .ok (.iconst 1, 1) := by decide +kernel
theorem dX4_behind_31 : decode cX4_behind 31 = .ok (.iconst 1, 1) := by decide +kernel
theorem dX4_behind_32 : decode cX4_behind 32 = .ok (.invokevirtual 121, 3) := by decide +kernel
theorem dX4_behind_35 : decode cX4_behind 35 = .ok (.iconst 0, 1) := by decide +kernel
theorem dX4_behind_36 : decode cX4_behind 36 = .ok (.istore 4, 2) := by decide +kernel
theorem dX4_behind_38 : decode cX4_behind 38 = .ok (.iload 4, 2) := by decide +kernel
theorem dX4_behind_40 : decode cX4_behind 40 = .ok (.iload_n 2, 1) := by decide +kernel
theorem dX4_behind_41 : decode cX4_behind 41 = .ok (.if_icmp .ge 14, 3) := by decide +kernel
theorem dX4_behind_44 : decode cX4_behind 44 = .ok (.aload_n 0, 1) := by decide +kernel
theorem dX4_behind_45 : decode cX4_behind 45 = .ok (.iload_n 1, 1) := by decide +kernel
theorem dX4_behind_46 : decode cX4_behind 46 = .ok (.invokevirtual 113, 3) := by decide +kernel
theorem dX4_behind_49 : decode cX4_behind 49 = .ok (.iinc 4 1, 3) := by decide +kernel
theorem dX4_behind_52 : decode cX4_behind 52 = .ok (.goto (-14), 3) := by decide +kernel
theorem dX4_behind_55 : decode cX4_behind 55 = .ok (.aload_n 0, 1) := by decide +kernel
theorem dX4_behind_56 : decode cX4_behind 56 = .ok (.getfield 101, 3) := by decide +kernel
theorem dX4_behind_59 : decode cX4_behind 59 = .ok (.istore 4, 2) := by decide +kernel
theorem dX4_behind_61 : decode cX4_behind 61 = .ok (.aload_n 0, 1) := by decide +kernel
theorem dX4_behind_62 : decode cX4_behind 62 = .ok (.iconst 1, 1) := by decide +kernel
theorem dX4_behind_63 : decode cX4_behind 63 = .ok (.iconst 0, 1) := by decide +kernel
theorem dX4_behind_64 : decode cX4_behind 64 = .ok (.invokevirtual 121, 3) := by decide +kernel
theorem dX4_behind_67 : decode cX4_behind 67 = .ok (.iload 4, 2) := by decide +kernel
theorem dX4_behind_69 : decode cX4_behind 69 = .ok (.ireturn, 1) := by decide +kernel
theorem dX4_readBy_0 : decode cX4_readBy 0 = .ok (.iload_n 1, 1) := by decide +kernel
theorem dX4_readBy_1 : decode cX4_readBy 1 = .ok (.iconst 5, 1) := by decide +kernel
theorem dX4_readBy_2 : decode cX4_readBy 2 = .ok (.if_icmp .ne 8, 3) := by decide +kernel
theorem dX4_readBy_5 : decode cX4_readBy 5 = .ok (.iload_n 3, 1) := by decide +kernel
theorem dX4_readBy_6 : decode cX4_readBy 6 = .ok (.bipush 24, 2) := by decide +kernel
theorem dX4_readBy_8 : decode cX4_readBy 8 = .ok (.irem, 1) := by decide +kernel
theorem dX4_readBy_9 : decode cX4_readBy 9 = .ok (.ireturn, 1) := by decide +kernel
theorem dX4_readBy_10 : decode cX4_readBy 10 = .ok (.iload_n 2, 1) := by decide +kernel
theorem dX4_readBy_11 : decode cX4_readBy 11 = .ok (.bipush 8, 2) := by decide +kernel
theorem dX4_readBy_13 : decode cX4_readBy 13 = .ok (.if_icmp .ne 8, 3) := by decide +kernel
theorem dX4_readBy_16 : decode cX4_readBy 16 = .ok (.aload_n 0, 1) := by decide +kernel
theorem dX4_readBy_17 : decode cX4_readBy 17 = .ok (.getfield 142, 3) := by decide +kernel
theorem dX4_readBy_20 : decode cX4_readBy 20 = .ok (.ireturn, 1) := by decide +kernel
theorem dX4_readBy_21 : decode cX4_readBy 21 = .ok (.iload_n 2, 1) := by decide +kernel
theorem dX4_readBy_22 : decode cX4_readBy 22 = .ok (.iconst 3, 1) := by decide +kernel
theorem dX4_readBy_23 : decode cX4_readBy 23 = .ok (.if_icmp .le 12, 3) := by decide +kernel
theorem dX4_readBy_26 : decode cX4_readBy 26 = .ok (.aload_n 0, 1) := by decide +kernel
theorem dX4_readBy_27 : decode cX4_readBy 27 = .ok (.getfield 16, 3) := by decide +kernel
theorem dX4_readBy_30 : decode cX4_readBy 30 = .ok (.iconst 2, 1) := by decide +kernel
theorem dX4_readBy_31 : decode cX4_readBy 31 = .ok (.iaload, 1) := by decide +kernel
theorem dX4_readBy_32 : decode cX4_readBy 32 = .ok (.goto 9, 3) := by decide +kernel
theorem dX4_readBy_35 : decode cX4_readBy 35 = .ok (.aload_n 0, 1) := by decide +kernel
theorem dX4_readBy_36 : decode cX4_readBy 36 = .ok (.getfield 16, 3) := by decide +kernel
theorem dX4_readBy_39 : decode cX4_readBy 39 = .ok (.iconst 1, 1) := by decide +kernel
theorem dX4_readBy_40 : decode cX4_readBy 40 = .ok (.iaload, 1) := by decide +kernel
theorem dX4_readBy_41 : decode cX4_readBy 41 = .ok (.istore 4, 2) := by decide +kernel
theorem dX4_readBy_43 : decode cX4_readBy 43 = .ok (.iload_n 1, 1) := by decide +kernel
theorem dX4_readBy_44 : decode cX4_readBy 44 = .ok (.iconst 1, 1) := by decide +kernel
theorem dX4_readBy_45 : decode cX4_readBy 45 = .ok (.if_icmp .eq 13, 3) := by decide +kernel
theorem dX4_readBy_48 : decode cX4_readBy 48 = .ok (.iload_n 1, 1) := by decide +kernel
theorem dX4_readBy_49 : decode cX4_readBy 49 = .ok (.iconst 4, 1) := by decide +kernel
theorem dX4_readBy_50 : decode cX4_readBy 50 = .ok (.if_icmp .ne 11, 3) := by decide +kernel
theorem dX4_readBy_53 : decode cX4_readBy 53 = .ok (.iload_n 2, 1) := by decide +kernel
theorem dX4_readBy_54 : decode cX4_readBy 54 = .ok (.iconst 4, 1) := by decide +kernel
theorem dX4_readBy_55 : decode cX4_readBy 55 = .ok (.if_icmp .ge 6, 3) := by decide +kernel
theorem dX4_readBy_58 : decode cX4_readBy 58 = .ok (.iconst 1, 1) := by decide +kernel
theorem dX4_readBy_59 : decode cX4_readBy 59 = .ok (.istore 4, 2) := by decide +kernel
theorem dX4_readBy_61 : decode cX4_readBy 61 = .ok (.iload_n 1, 1) := by decide +kernel
theorem dX4_readBy_62 : decode cX4_readBy 62 = .ok (.iconst 2, 1) := by decide +kernel
theorem dX4_readBy_63 : decode cX4_readBy 63 = .ok (.if_icmp .ne 9, 3) := by decide +kernel
theorem dX4_readBy_66 : decode cX4_readBy 66 = .ok (.iload 4, 2) := by decide +kernel
theorem dX4_readBy_68 : decode cX4_readBy 68 = .ok (.iconst 2, 1) := by decide +kernel
theorem dX4_readBy_69 : decode cX4_readBy 69 = .ok (.imul, 1) := by decide +kernel
theorem dX4_readBy_70 : decode cX4_readBy 70 = .ok (.istore 4, 2) := by decide +kernel
theorem dX4_readBy_72 : decode cX4_readBy 72 = .ok (.aload_n 0, 1) := by decide +kernel
theorem dX4_readBy_73 : decode cX4_readBy 73 = .ok (.getfield 142, 3) := by decide +kernel
theorem dX4_readBy_76 : decode cX4_readBy 76 = .ok (.bipush 6, 2) := by decide +kernel
theorem dX4_readBy_78 : decode cX4_readBy 78 = .ok (.idiv, 1) := by decide +kernel
theorem dX4_readBy_79 : decode cX4_readBy 79 = .ok (.istore 5, 2) := by decide +kernel
theorem dX4_readBy_81 : decode cX4_readBy 81 = .ok (.aload_n 0, 1) := by decide +kernel
theorem dX4_readBy_82 : decode cX4_readBy 82 = .ok (.getfield 142, 3) := by decide +kernel
theorem dX4_readBy_85 : decode cX4_readBy 85 = .ok (.bipush 6, 2) := by decide +kernel
theorem dX4_readBy_87 : decode cX4_readBy 87 = .ok (.irem, 1) := by decide +kernel
theorem dX4_readBy_88 : decode cX4_readBy 88 = .ok (.istore 6, 2) := by decide +kernel
theorem dX4_readBy_90 : decode cX4_readBy 90 = .ok (.iload_n 2, 1) := by decide +kernel
theorem dX4_readBy_91 : decode cX4_readBy 91 = .ok (.iconst 2, 1) := by decide +kernel
theorem dX4_readBy_92 : decode cX4_readBy 92 = .ok (.irem, 1) := by decide +kernel
theorem dX4_readBy_93 : decode cX4_readBy 93 = .ok (.ifCond .ne 7, 3) := by decide +kernel
theorem dX4_readBy_96 : decode cX4_readBy 96 = .ok (.iconst 1, 1) := by decide +kernel
theorem dX4_readBy_97 : decode cX4_readBy 97 = .ok (.goto 4, 3) := by decide +kernel
theorem dX4_readBy_100 : decode cX4_readBy 100 = .ok (.iconst 0, 1) := by decide +kernel
theorem dX4_readBy_101 : decode cX4_readBy 101 = .ok (.istore 7, 2) := by decide +kernel
theorem dX4_readBy_103 : decode cX4_readBy 103 = .ok (.iload_n 2, 1) := by decide +kernel
theorem dX4_readBy_104 : decode cX4_readBy 104 = .ok (.iconst 2, 1) := by decide +kernel
theorem dX4_readBy_105 : decode cX4_readBy 105 = .ok (.idiv, 1) := by decide +kernel
theorem dX4_readBy_106 : decode cX4_readBy 106 = .ok (.iconst 2, 1) := by decide +kernel
theorem dX4_readBy_107 : decode cX4_readBy 107 = .ok (.irem, 1) := by decide +kernel
theorem dX4_readBy_108 : decode cX4_readBy 108 = .ok (.ifCond .ne 33, 3) := by decide +kernel
theorem dX4_readBy_111 : decode cX4_readBy 111 = .ok (.bipush 6, 2) := by decide +kernel
theorem dX4_readBy_113 : decode cX4_readBy 113 = .ok (.iload 7, 2) := by decide +kernel
theorem dX4_readBy_115 : decode cX4_readBy 115 = .ok (.ifCond .eq 11, 3) := by decide +kernel
theorem dX4_readBy_118 : decode cX4_readBy 118 = .ok (.iload 5, 2) := by decide +kernel
theorem dX4_readBy_120 : decode cX4_readBy 120 = .ok (.iload 4, 2) := by decide +kernel
theorem dX4_readBy_122 : decode cX4_readBy 122 = .ok (.isub, 1) := by decide +kernel
theorem dX4_readBy_123 : decode cX4_readBy 123 = .ok (.goto 8, 3) := by decide +kernel
theorem dX4_readBy_126 : decode cX4_readBy 126 = .ok (.iload 5, 2) := by decide +kernel
theorem dX4_readBy_128 : decode cX4_readBy 128 = .ok (.iload 4, 2) := by decide +kernel
theorem dX4_readBy_130 : decode cX4_readBy 130 = .ok (.iadd, 1) := by decide +kernel
theorem dX4_readBy_131 : decode cX4_readBy 131 = .ok (.iconst 0, 1) := by decide +kernel
theorem dX4_readBy_132 : decode cX4_readBy 132 = .ok (.iconst 3, 1) := by decide +kernel
theorem dX4_readBy_133 : decode cX4_readBy 133 = .ok (.invokestatic 173, 3) := by decide +kernel
theorem dX4_readBy_136 : decode cX4_readBy 136 = .ok (.imul, 1) := by decide +kernel
theorem dX4_readBy_137 : decode cX4_readBy 137 = .ok (.iload 6, 2) := by decide +kernel
theorem dX4_readBy_139 : decode cX4_readBy 139 = .ok (.iadd, 1) := by decide +kernel
theorem dX4_readBy_140 : decode cX4_readBy 140 = .ok (.ireturn, 1) := by decide +kernel
theorem dX4_readBy_141 : decode cX4_readBy 141 = .ok (.bipush 6, 2) := by decide +kernel
theorem dX4_readBy_143 : decode cX4_readBy 143 = .ok (.iload 5, 2) := by decide +kernel
theorem dX4_readBy_145 : decode cX4_readBy 145 = .ok (.imul, 1) := by decide +kernel
theorem dX4_readBy_146 : decode cX4_readBy 146 = .ok (.iload 7, 2) := by decide +kernel
theorem dX4_readBy_148 : decode cX4_readBy 148 = .ok (.iload_n 1, 1) := by decide +kernel
theorem dX4_readBy_149 : decode cX4_readBy 149 = .ok (.iconst 3, 1) := by decide +kernel
theorem dX4_readBy_150 : decode cX4_readBy 150 = .ok (.if_icmp .eq 7, 3) := by decide +kernel
theorem dX4_readBy_153 : decode cX4_readBy 153 = .ok (.iconst 1, 1) := by decide +kernel
theorem dX4_readBy_154 : decode cX4_readBy 154 = .ok (.goto 4, 3) := by decide +kernel
theorem dX4_readBy_157 : decode cX4_readBy 157 = .ok (.iconst 0, 1) := by decide +kernel
theorem dX4_readBy_158 : decode cX4_readBy 158 = .ok (.if_icmp .ne 11, 3) := by decide +kernel
theorem dX4_readBy_161 : decode cX4_readBy 161 = .ok (.iload 6, 2) := by decide +kernel
theorem dX4_readBy_163 : decode cX4_readBy 163 = .ok (.iload 4, 2) := by decide +kernel
theorem dX4_readBy_165 : decode cX4_readBy 165 = .ok (.isub, 1) := by decide +kernel
theorem dX4_readBy_166 : decode cX4_readBy 166 = .ok (.goto 8, 3) := by decide +kernel
theorem dX4_readBy_169 : decode cX4_readBy 169 = .ok (.iload 6, 2) := by decide +kernel
theorem dX4_readBy_171 : decode cX4_readBy 171 = .ok (.iload 4, 2) := by decide +kernel
theorem dX4_readBy_173 : decode cX4_readBy 173 = .ok (.iadd, 1) := by decide +kernel
theorem dX4_readBy_174 : decode cX4_readBy 174 = .ok (.iconst 0, 1) := by decide +kernel
theorem dX4_readBy_175 : decode cX4_readBy 175 = .ok (.iconst 5, 1) := by decide +kernel
theorem dX4_readBy_176 : decode cX4_readBy 176 = .ok (.invokestatic 173, 3) := by decide +kernel
theorem dX4_readBy_179 : decode cX4_readBy 179 = .ok (.iadd, 1) := by decide +kernel
theorem dX4_readBy_180 : decode cX4_readBy 180 = .ok (.ireturn, 1) := by decide +kernel
theorem dX4_reads_0 : decode cX4_reads 0 = .ok (.iload_n 1, 1) := by decide +kernel
theorem dX4_reads_1 : decode cX4_reads 1 = .ok (.iconst 0, 1) := by decide +kernel
theorem dX4_reads_2 : decode cX4_reads 2 = .ok (.iconst 5, 1) := by decide +kernel
theorem dX4_reads_3 : decode cX4_reads 3 = .ok (.invokestatic 71, 3) := by decide +kernel
theorem dX4_reads_6 : decode cX4_reads 6 = .ok (.ifCond .eq 13, 3) := by decide +kernel
theorem dX4_reads_9 : decode cX4_reads 9 = .ok (.iload_n 2, 1) := by decide +kernel
theorem dX4_reads_10 : decode cX4_reads 10 = .ok (.iconst 0, 1) := by decide +kernel
theorem dX4_reads_11 : decode cX4_reads 11 = .ok (.bipush 8, 2) := by decide +kernel
theorem dX4_reads_13 : decode cX4_reads 13 = .ok (.invokestatic 71, 3) := by decide +kernel
theorem dX4_reads_16 : decode cX4_reads 16 = .ok (.ifCond .ne 8, 3) := by decide +kernel
theorem dX4_reads_19 : decode cX4_reads 19 = .ok (.bipush (-2), 2) := by decide +kernel
theorem dX4_reads_21 : decode cX4_reads 21 = .ok (.goto 13, 3) := by decide +kernel
theorem dX4_reads_24 : decode cX4_reads 24 = .ok (.iload_n 3, 1) := by decide +kernel
theorem dX4_reads_25 : decode cX4_reads 25 = .ok (.ifCond .ge 8, 3) := by decide +kernel
theorem dX4_reads_28 : decode cX4_reads 28 = .ok (.bipush (-4), 2) := by decide +kernel
theorem dX4_reads_30 : decode cX4_reads 30 = .ok (.goto 4, 3) := by decide +kernel
theorem dX4_reads_33 : decode cX4_reads 33 = .ok (.iconst 0, 1) := by decide +kernel
theorem dX4_reads_34 : decode cX4_reads 34 = .ok (.istore 4, 2) := by decide +kernel
theorem dX4_reads_36 : decode cX4_reads 36 = .ok (.iload 4, 2) := by decide +kernel
theorem dX4_reads_38 : decode cX4_reads 38 = .ok (.ifCond .eq 12, 3) := by decide +kernel
theorem dX4_reads_41 : decode cX4_reads 41 = .ok (.aload_n 0, 1) := by decide +kernel
theorem dX4_reads_42 : decode cX4_reads 42 = .ok (.iload 4, 2) := by decide +kernel
theorem dX4_reads_44 : decode cX4_reads 44 = .ok (.invokevirtual 60, 3) := by decide +kernel
theorem dX4_reads_47 : decode cX4_reads 47 = .ok (.goto 10, 3) := by decide +kernel
theorem dX4_reads_50 : decode cX4_reads 50 = .ok (.aload_n 0, 1) := by decide +kernel
theorem dX4_reads_51 : decode cX4_reads 51 = .ok (.iload_n 1, 1) := by decide +kernel
theorem dX4_reads_52 : decode cX4_reads 52 = .ok (.iload_n 2, 1) := by decide +kernel
theorem dX4_reads_53 : decode cX4_reads 53 = .ok (.iload_n 3, 1) := by decide +kernel
theorem dX4_reads_54 : decode cX4_reads 54 = .ok (.invokevirtual 176, 3) := by decide +kernel
theorem dX4_reads_57 : decode cX4_reads 57 = .ok (.ireturn, 1) := by decide +kernel
theorem dX4_followBy_0 : decode cX4_followBy 0 = .ok (.aload_n 0, 1) := by decide +kernel
theorem dX4_followBy_1 : decode cX4_followBy 1 = .ok (.iconst 1, 1) := by decide +kernel
theorem dX4_followBy_2 : decode cX4_followBy 2 = .ok (.iconst 1, 1) := by decide +kernel
theorem dX4_followBy_3 : decode cX4_followBy 3 = .ok (.invokevirtual 121, 3) := by decide +kernel
theorem dX4_followBy_6 : decode cX4_followBy 6 = .ok (.iconst 0, 1) := by decide +kernel
theorem dX4_followBy_7 : decode cX4_followBy 7 = .ok (.istore_n 2, 1) := by decide +kernel
theorem dX4_followBy_8 : decode cX4_followBy 8 = .ok (.aload_n 0, 1) := by decide +kernel
theorem dX4_followBy_9 : decode cX4_followBy 9 = .ok (.getfield 101, 3) := by decide +kernel
theorem dX4_followBy_12 : decode cX4_followBy 12 = .ok (.bipush 24, 2) := by decide +kernel
theorem dX4_followBy_14 : decode cX4_followBy 14 = .ok (.if_icmp .eq 37, 3) := by decide +kernel
theorem dX4_followBy_17 : decode cX4_followBy 17 = .ok (.iload_n 2, 1) := by decide +kernel
theorem dX4_followBy_18 : decode cX4_followBy 18 = .ok (.bipush 40, 2) := by decide +kernel
theorem dX4_followBy_20 : decode cX4_followBy 20 = .ok (.if_icmp .ge 31, 3) := by decide +kernel
theorem dX4_followBy_23 : decode cX4_followBy 23 = .ok (.aload_n 0, 1) := by decide +kernel
theorem dX4_followBy_24 : decode cX4_followBy 24 = .ok (.aload_n 0, 1) := by decide +kernel
theorem dX4_followBy_25 : decode cX4_followBy 25 = .ok (.iload_n 1, 1) := by decide +kernel
theorem dX4_followBy_26 : decode cX4_followBy 26 = .ok (.aload_n 0, 1) := by decide +kernel
theorem dX4_followBy_27 : decode cX4_followBy 27 = .ok (.aload_n 0, 1) := by decide +kernel
theorem dX4_followBy_28 : decode cX4_followBy 28 = .ok (.getfield 142, 3) := by decide +kernel
theorem dX4_followBy_31 : decode cX4_followBy 31 = .ok (.aload_n 0, 1) := by decide +kernel
theorem dX4_followBy_32 : decode cX4_followBy 32 = .ok (.getfield 101, 3) := by decide +kernel
theorem dX4_followBy_35 : decode cX4_followBy 35 = .ok (.invokevirtual 170, 3) := by decide +kernel
theorem dX4_followBy_38 : decode cX4_followBy 38 = .ok (.iload_n 2, 1) := by decide +kernel
theorem dX4_followBy_39 : decode cX4_followBy 39 = .ok (.invokevirtual 176, 3) := by decide +kernel
theorem dX4_followBy_42 : decode cX4_followBy 42 = .ok (.invokevirtual 113, 3) := by decide +kernel
theorem dX4_followBy_45 : decode cX4_followBy 45 = .ok (.iinc 2 1, 3) := by decide +kernel
theorem dX4_followBy_48 : decode cX4_followBy 48 = .ok (.goto (-40), 3) := by decide +kernel
theorem dX4_followBy_51 : decode cX4_followBy 51 = .ok (.aload_n 0, 1) := by decide +kernel
theorem dX4_followBy_52 : decode cX4_followBy 52 = .ok (.getfield 101, 3) := by decide +kernel
theorem dX4_followBy_55 : decode cX4_followBy 55 = .ok (.bipush 24, 2) := by decide +kernel
theorem dX4_followBy_57 : decode cX4_followBy 57 = .ok (.if_icmp .ne 7, 3) := by decide +kernel
theorem dX4_followBy_60 : decode cX4_followBy 60 = .ok (.iload_n 2, 1) := by decide +kernel
theorem dX4_followBy_61 : decode cX4_followBy 61 = .ok (.goto 5, 3) := by decide +kernel
theorem dX4_followBy_64 : decode cX4_followBy 64 = .ok (.bipush (-9), 2) := by decide +kernel
theorem dX4_followBy_66 : decode cX4_followBy 66 = .ok (.istore_n 3, 1) := by decide +kernel
theorem dX4_followBy_67 : decode cX4_followBy 67 = .ok (.aload_n 0, 1) := by decide +kernel
theorem dX4_followBy_68 : decode cX4_followBy 68 = .ok (.iconst 1, 1) := by decide +kernel
theorem dX4_followBy_69 : decode cX4_followBy 69 = .ok (.iconst 0, 1) := by decide +kernel
theorem dX4_followBy_70 : decode cX4_followBy 70 = .ok (.invokevirtual 121, 3) := by decide +kernel
theorem dX4_followBy_73 : decode cX4_followBy 73 = .ok (.iload_n 3, 1) := by decide +kernel
theorem dX4_followBy_74 : decode cX4_followBy 74 = .ok (.ireturn, 1) := by decide +kernel
theorem dX4_orElse_0 : decode cX4_orElse 0 = .ok (.iload_n 0, 1) := by decide +kernel
theorem dX4_orElse_1 : decode cX4_orElse 1 = .ok (.ifCond .ge 7, 3) := by decide +kernel
theorem dX4_orElse_4 : decode cX4_orElse 4 = .ok (.iload_n 1, 1) := by decide +kernel
theorem dX4_orElse_5 : decode cX4_orElse 5 = .ok (.goto 4, 3) := by decide +kernel
theorem dX4_orElse_8 : decode cX4_orElse 8 = .ok (.iload_n 0, 1) := by decide +kernel
theorem dX4_orElse_9 : decode cX4_orElse 9 = .ok (.ireturn, 1) := by decide +kernel
theorem dX4_follow_0 : decode cX4_follow 0 = .ok (.iload_n 1, 1) := by decide +kernel
theorem dX4_follow_1 : decode cX4_follow 1 = .ok (.iconst 0, 1) := by decide +kernel
theorem dX4_follow_2 : decode cX4_follow 2 = .ok (.iconst 5, 1) := by decide +kernel
theorem dX4_follow_3 : decode cX4_follow 3 = .ok (.invokestatic 71, 3) := by decide +kernel
theorem dX4_follow_6 : decode cX4_follow 6 = .ok (.ifCond .eq 11, 3) := by decide +kernel
theorem dX4_follow_9 : decode cX4_follow 9 = .ok (.aload_n 0, 1) := by decide +kernel
theorem dX4_follow_10 : decode cX4_follow 10 = .ok (.iload_n 1, 1) := by decide +kernel
theorem dX4_follow_11 : decode cX4_follow 11 = .ok (.invokevirtual 179, 3) := by decide +kernel
theorem dX4_follow_14 : decode cX4_follow 14 = .ok (.goto 9, 3) := by decide +kernel
theorem dX4_follow_17 : decode cX4_follow 17 = .ok (.aload_n 0, 1) := by decide +kernel
theorem dX4_follow_18 : decode cX4_follow 18 = .ok (.bipush (-2), 2) := by decide +kernel
theorem dX4_follow_20 : decode cX4_follow 20 = .ok (.invokevirtual 60, 3) := by decide +kernel
theorem dX4_follow_23 : decode cX4_follow 23 = .ok (.ireturn, 1) := by decide +kernel
theorem dX4_goesAll_0 : decode cX4_goesAll 0 = .ok (.aload_n 0, 1) := by decide +kernel
theorem dX4_goesAll_1 : decode cX4_goesAll 1 = .ok (.getfield 101, 3) := by decide +kernel
theorem dX4_goesAll_4 : decode cX4_goesAll 4 = .ok (.istore_n 2, 1) := by decide +kernel
theorem dX4_goesAll_5 : decode cX4_goesAll 5 = .ok (.aload_n 0, 1) := by decide +kernel
theorem dX4_goesAll_6 : decode cX4_goesAll 6 = .ok (.iconst 0, 1) := by decide +kernel
theorem dX4_goesAll_7 : decode cX4_goesAll 7 = .ok (.putfield 182, 3) := by decide +kernel
theorem dX4_goesAll_10 : decode cX4_goesAll 10 = .ok (.aload_n 0, 1) := by decide +kernel
theorem dX4_goesAll_11 : decode cX4_goesAll 11 = .ok (.bipush (-9), 2) := by decide +kernel
theorem dX4_goesAll_13 : decode cX4_goesAll 13 = .ok (.putfield 185, 3) := by decide +kernel
theorem dX4_goesAll_16 : decode cX4_goesAll 16 = .ok (.bipush (-9), 2) := by decide +kernel
theorem dX4_goesAll_18 : decode cX4_goesAll 18 = .ok (.istore_n 3, 1) := by decide +kernel
theorem dX4_goesAll_19 : decode cX4_goesAll 19 = .ok (.iconst 0, 1) := by decide +kernel
theorem dX4_goesAll_20 : decode cX4_goesAll 20 = .ok (.istore 4, 2) := by decide +kernel
theorem dX4_goesAll_22 : decode cX4_goesAll 22 = .ok (.iload 4, 2) := by decide +kernel
theorem dX4_goesAll_24 : decode cX4_goesAll 24 = .ok (.bipush 24, 2) := by decide +kernel
theorem dX4_goesAll_26 : decode cX4_goesAll 26 = .ok (.if_icmp .ge 56, 3) := by decide +kernel
theorem dX4_goesAll_29 : decode cX4_goesAll 29 = .ok (.aload_n 0, 1) := by decide +kernel
theorem dX4_goesAll_30 : decode cX4_goesAll 30 = .ok (.iload 4, 2) := by decide +kernel
theorem dX4_goesAll_32 : decode cX4_goesAll 32 = .ok (.putfield 101, 3) := by decide +kernel
theorem dX4_goesAll_35 : decode cX4_goesAll 35 = .ok (.aload_n 0, 1) := by decide +kernel
theorem dX4_goesAll_36 : decode cX4_goesAll 36 = .ok (.iload_n 1, 1) := by decide +kernel
theorem dX4_goesAll_37 : decode cX4_goesAll 37 = .ok (.invokevirtual 179, 3) := by decide +kernel
theorem dX4_goesAll_40 : decode cX4_goesAll 40 = .ok (.bipush 40, 2) := by decide +kernel
theorem dX4_goesAll_42 : decode cX4_goesAll 42 = .ok (.invokestatic 188, 3) := by decide +kernel
theorem dX4_goesAll_45 : decode cX4_goesAll 45 = .ok (.istore 5, 2) := by decide +kernel
theorem dX4_goesAll_47 : decode cX4_goesAll 47 = .ok (.aload_n 0, 1) := by decide +kernel
theorem dX4_goesAll_48 : decode cX4_goesAll 48 = .ok (.dup, 1) := by decide +kernel
theorem dX4_goesAll_49 : decode cX4_goesAll 49 = .ok (.getfield 182, 3) := by decide +kernel
theorem dX4_goesAll_52 : decode cX4_goesAll 52 = .ok (.iload 5, 2) := by decide +kernel
theorem dX4_goesAll_54 : decode cX4_goesAll 54 = .ok (.iadd, 1) := by decide +kernel
theorem dX4_goesAll_55 : decode cX4_goesAll 55 = .ok (.putfield 182, 3) := by decide +kernel
theorem dX4_goesAll_58 : decode cX4_goesAll 58 = .ok (.iload 5, 2) := by decide +kernel
theorem dX4_goesAll_60 : decode cX4_goesAll 60 = .ok (.iload_n 3, 1) := by decide +kernel
theorem dX4_goesAll_61 : decode cX4_goesAll 61 = .ok (.if_icmp .gt 6, 3) := by decide +kernel
theorem dX4_goesAll_64 : decode cX4_goesAll 64 = .ok (.goto 12, 3) := by decide +kernel
theorem dX4_goesAll_67 : decode cX4_goesAll 67 = .ok (.iload 5, 2) := by decide +kernel
theorem dX4_goesAll_69 : decode cX4_goesAll 69 = .ok (.istore_n 3, 1) := by decide +kernel
theorem dX4_goesAll_70 : decode cX4_goesAll 70 = .ok (.aload_n 0, 1) := by decide +kernel
theorem dX4_goesAll_71 : decode cX4_goesAll 71 = .ok (.iload 4, 2) := by decide +kernel
theorem dX4_goesAll_73 : decode cX4_goesAll 73 = .ok (.putfield 185, 3) := by decide +kernel
theorem dX4_goesAll_76 : decode cX4_goesAll 76 = .ok (.iinc 4 1, 3) := by decide +kernel
theorem dX4_goesAll_79 : decode cX4_goesAll 79 = .ok (.goto (-57), 3) := by decide +kernel
theorem dX4_goesAll_82 : decode cX4_goesAll 82 = .ok (.aload_n 0, 1) := by decide +kernel
theorem dX4_goesAll_83 : decode cX4_goesAll 83 = .ok (.iload_n 2, 1) := by decide +kernel
theorem dX4_goesAll_84 : decode cX4_goesAll 84 = .ok (.putfield 101, 3) := by decide +kernel
theorem dX4_goesAll_87 : decode cX4_goesAll 87 = .ok (.return_, 1) := by decide +kernel
theorem dX4_divisor_0 : decode cX4_divisor 0 = .ok (.lload_n 0, 1) := by decide +kernel
theorem dX4_divisor_1 : decode cX4_divisor 1 = .ok (.lstore 4, 2) := by decide +kernel
theorem dX4_divisor_3 : decode cX4_divisor 3 = .ok (.lload_n 2, 1) := by decide +kernel
theorem dX4_divisor_4 : decode cX4_divisor 4 = .ok (.lstore 6, 2) := by decide +kernel
theorem dX4_divisor_6 : decode cX4_divisor 6 = .ok (.lload 6, 2) := by decide +kernel
theorem dX4_divisor_8 : decode cX4_divisor 8 = .ok (.lconst 0, 1) := by decide +kernel
theorem dX4_divisor_9 : decode cX4_divisor 9 = .ok (.lcmp, 1) := by decide +kernel
theorem dX4_divisor_10 : decode cX4_divisor 10 = .ok (.ifCond .eq 21, 3) := by decide +kernel
theorem dX4_divisor_13 : decode cX4_divisor 13 = .ok (.lload 4, 2) := by decide +kernel
theorem dX4_divisor_15 : decode cX4_divisor 15 = .ok (.lload 6, 2) := by decide +kernel
theorem dX4_divisor_17 : decode cX4_divisor 17 = .ok (.lrem, 1) := by decide +kernel
theorem dX4_divisor_18 : decode cX4_divisor 18 = .ok (.lstore 8, 2) := by decide +kernel
theorem dX4_divisor_20 : decode cX4_divisor 20 = .ok (.lload 6, 2) := by decide +kernel
theorem dX4_divisor_22 : decode cX4_divisor 22 = .ok (.lstore 4, 2) := by decide +kernel
theorem dX4_divisor_24 : decode cX4_divisor 24 = .ok (.lload 8, 2) := by decide +kernel
theorem dX4_divisor_26 : decode cX4_divisor 26 = .ok (.lstore 6, 2) := by decide +kernel
theorem dX4_divisor_28 : decode cX4_divisor 28 = .ok (.goto (-22), 3) := by decide +kernel
theorem dX4_divisor_31 : decode cX4_divisor 31 = .ok (.lload 4, 2) := by decide +kernel
theorem dX4_divisor_33 : decode cX4_divisor 33 = .ok (.lreturn, 1) := by decide +kernel
theorem dX4_partOf_0 : decode cX4_partOf 0 = .ok (.iload 4, 2) := by decide +kernel
theorem dX4_partOf_2 : decode cX4_partOf 2 = .ok (.ifCond .ne 7, 3) := by decide +kernel
theorem dX4_partOf_5 : decode cX4_partOf 5 = .ok (.lload_n 0, 1) := by decide +kernel
theorem dX4_partOf_6 : decode cX4_partOf 6 = .ok (.goto 4, 3) := by decide +kernel
theorem dX4_partOf_9 : decode cX4_partOf 9 = .ok (.lload_n 2, 1) := by decide +kernel
theorem dX4_partOf_10 : decode cX4_partOf 10 = .ok (.lload_n 0, 1) := by decide +kernel
theorem dX4_partOf_11 : decode cX4_partOf 11 = .ok (.lload_n 2, 1) := by decide +kernel
theorem dX4_partOf_12 : decode cX4_partOf 12 = .ok (.invokestatic 191, 3) := by decide +kernel
theorem dX4_partOf_15 : decode cX4_partOf 15 = .ok (.ldiv, 1) := by decide +kernel
theorem dX4_partOf_16 : decode cX4_partOf 16 = .ok (.lreturn, 1) := by decide +kernel
theorem dX4_mean_0 : decode cX4_mean 0 = .ok (.iload_n 1, 1) := by decide +kernel
theorem dX4_mean_1 : decode cX4_mean 1 = .ok (.iconst 0, 1) := by decide +kernel
theorem dX4_mean_2 : decode cX4_mean 2 = .ok (.iconst 5, 1) := by decide +kernel
theorem dX4_mean_3 : decode cX4_mean 3 = .ok (.invokestatic 71, 3) := by decide +kernel
theorem dX4_mean_6 : decode cX4_mean 6 = .ok (.ifCond .eq 12, 3) := by decide +kernel
theorem dX4_mean_9 : decode cX4_mean 9 = .ok (.iload_n 2, 1) := by decide +kernel
theorem dX4_mean_10 : decode cX4_mean 10 = .ok (.iconst 0, 1) := by decide +kernel
theorem dX4_mean_11 : decode cX4_mean 11 = .ok (.iconst 1, 1) := by decide +kernel
theorem dX4_mean_12 : decode cX4_mean 12 = .ok (.invokestatic 71, 3) := by decide +kernel
theorem dX4_mean_15 : decode cX4_mean 15 = .ok (.ifCond .ne 10, 3) := by decide +kernel
theorem dX4_mean_18 : decode cX4_mean 18 = .ok (.aload_n 0, 1) := by decide +kernel
theorem dX4_mean_19 : decode cX4_mean 19 = .ok (.bipush (-2), 2) := by decide +kernel
theorem dX4_mean_21 : decode cX4_mean 21 = .ok (.invokevirtual 195, 3) := by decide +kernel
theorem dX4_mean_24 : decode cX4_mean 24 = .ok (.lreturn, 1) := by decide +kernel
theorem dX4_mean_25 : decode cX4_mean 25 = .ok (.aload_n 0, 1) := by decide +kernel
theorem dX4_mean_26 : decode cX4_mean 26 = .ok (.iload_n 1, 1) := by decide +kernel
theorem dX4_mean_27 : decode cX4_mean 27 = .ok (.invokevirtual 199, 3) := by decide +kernel
theorem dX4_mean_30 : decode cX4_mean 30 = .ok (.aload_n 0, 1) := by decide +kernel
theorem dX4_mean_31 : decode cX4_mean 31 = .ok (.getfield 182, 3) := by decide +kernel
theorem dX4_mean_34 : decode cX4_mean 34 = .ok (.i2l, 1) := by decide +kernel
theorem dX4_mean_35 : decode cX4_mean 35 = .ok (.ldc2_w 202, 3) := by decide +kernel
theorem dX4_mean_38 : decode cX4_mean 38 = .ok (.iload_n 2, 1) := by decide +kernel
theorem dX4_mean_39 : decode cX4_mean 39 = .ok (.invokestatic 204, 3) := by decide +kernel
theorem dX4_mean_42 : decode cX4_mean 42 = .ok (.lreturn, 1) := by decide +kernel
theorem dX4_hardest_0 : decode cX4_hardest 0 = .ok (.iload_n 1, 1) := by decide +kernel
theorem dX4_hardest_1 : decode cX4_hardest 1 = .ok (.iconst 0, 1) := by decide +kernel
theorem dX4_hardest_2 : decode cX4_hardest 2 = .ok (.iconst 5, 1) := by decide +kernel
theorem dX4_hardest_3 : decode cX4_hardest 3 = .ok (.invokestatic 71, 3) := by decide +kernel
theorem dX4_hardest_6 : decode cX4_hardest 6 = .ok (.ifCond .ne 10, 3) := by decide +kernel
theorem dX4_hardest_9 : decode cX4_hardest 9 = .ok (.aload_n 0, 1) := by decide +kernel
theorem dX4_hardest_10 : decode cX4_hardest 10 = .ok (.bipush (-2), 2) := by decide +kernel
theorem dX4_hardest_12 : decode cX4_hardest 12 = .ok (.invokevirtual 60, 3) := by decide +kernel
theorem dX4_hardest_15 : decode cX4_hardest 15 = .ok (.ireturn, 1) := by decide +kernel
theorem dX4_hardest_16 : decode cX4_hardest 16 = .ok (.aload_n 0, 1) := by decide +kernel
theorem dX4_hardest_17 : decode cX4_hardest 17 = .ok (.iload_n 1, 1) := by decide +kernel
theorem dX4_hardest_18 : decode cX4_hardest 18 = .ok (.invokevirtual 199, 3) := by decide +kernel
theorem dX4_hardest_21 : decode cX4_hardest 21 = .ok (.aload_n 0, 1) := by decide +kernel
theorem dX4_hardest_22 : decode cX4_hardest 22 = .ok (.getfield 185, 3) := by decide +kernel
theorem dX4_hardest_25 : decode cX4_hardest 25 = .ok (.ireturn, 1) := by decide +kernel
theorem dX4_speak_0 : decode cX4_speak 0 = .ok (.iload_n 1, 1) := by decide +kernel
theorem dX4_speak_1 : decode cX4_speak 1 = .ok (.iconst 0, 1) := by decide +kernel
theorem dX4_speak_2 : decode cX4_speak 2 = .ok (.iconst 5, 1) := by decide +kernel
theorem dX4_speak_3 : decode cX4_speak 3 = .ok (.invokestatic 71, 3) := by decide +kernel
theorem dX4_speak_6 : decode cX4_speak 6 = .ok (.ifCond .eq 12, 3) := by decide +kernel
theorem dX4_speak_9 : decode cX4_speak 9 = .ok (.iload_n 2, 1) := by decide +kernel
theorem dX4_speak_10 : decode cX4_speak 10 = .ok (.iconst 0, 1) := by decide +kernel
theorem dX4_speak_11 : decode cX4_speak 11 = .ok (.iconst 1, 1) := by decide +kernel
theorem dX4_speak_12 : decode cX4_speak 12 = .ok (.invokestatic 71, 3) := by decide +kernel
theorem dX4_speak_15 : decode cX4_speak 15 = .ok (.ifCond .ne 10, 3) := by decide +kernel
theorem dX4_speak_18 : decode cX4_speak 18 = .ok (.aload_n 0, 1) := by decide +kernel
theorem dX4_speak_19 : decode cX4_speak 19 = .ok (.bipush (-2), 2) := by decide +kernel
theorem dX4_speak_21 : decode cX4_speak 21 = .ok (.invokevirtual 60, 3) := by decide +kernel
theorem dX4_speak_24 : decode cX4_speak 24 = .ok (.ireturn, 1) := by decide +kernel
theorem dX4_speak_25 : decode cX4_speak 25 = .ok (.aload_n 0, 1) := by decide +kernel
theorem dX4_speak_26 : decode cX4_speak 26 = .ok (.getfield 16, 3) := by decide +kernel
theorem dX4_speak_29 : decode cX4_speak 29 = .ok (.iconst 1, 1) := by decide +kernel
theorem dX4_speak_30 : decode cX4_speak 30 = .ok (.iaload, 1) := by decide +kernel
theorem dX4_speak_31 : decode cX4_speak 31 = .ok (.istore_n 3, 1) := by decide +kernel
theorem dX4_speak_32 : decode cX4_speak 32 = .ok (.aload_n 0, 1) := by decide +kernel
theorem dX4_speak_33 : decode cX4_speak 33 = .ok (.getfield 16, 3) := by decide +kernel
theorem dX4_speak_36 : decode cX4_speak 36 = .ok (.iconst 2, 1) := by decide +kernel
theorem dX4_speak_37 : decode cX4_speak 37 = .ok (.iaload, 1) := by decide +kernel
theorem dX4_speak_38 : decode cX4_speak 38 = .ok (.istore 4, 2) := by decide +kernel
theorem dX4_speak_40 : decode cX4_speak 40 = .ok (.iconst 0, 1) := by decide +kernel
theorem dX4_speak_41 : decode cX4_speak 41 = .ok (.istore 5, 2) := by decide +kernel
theorem dX4_speak_43 : decode cX4_speak 43 = .ok (.bipush 99, 2) := by decide +kernel
theorem dX4_speak_45 : decode cX4_speak 45 = .ok (.istore 6, 2) := by decide +kernel
theorem dX4_speak_47 : decode cX4_speak 47 = .ok (.bipush 12, 2) := by decide +kernel
theorem dX4_speak_49 : decode cX4_speak 49 = .ok (.istore 7, 2) := by decide +kernel
theorem dX4_speak_51 : decode cX4_speak 51 = .ok (.iload 7, 2) := by decide +kernel
theorem dX4_speak_53 : decode cX4_speak 53 = .ok (.bipush 36, 2) := by decide +kernel
theorem dX4_speak_55 : decode cX4_speak 55 = .ok (.if_icmp .ge 77, 3) := by decide +kernel
theorem dX4_speak_58 : decode cX4_speak 58 = .ok (.iload 7, 2) := by decide +kernel
theorem dX4_speak_60 : decode cX4_speak 60 = .ok (.bipush 10, 2) := by decide +kernel
theorem dX4_speak_62 : decode cX4_speak 62 = .ok (.irem, 1) := by decide +kernel
theorem dX4_speak_63 : decode cX4_speak 63 = .ok (.iconst 2, 1) := by decide +kernel
theorem dX4_speak_64 : decode cX4_speak 64 = .ok (.iconst 5, 1) := by decide +kernel
theorem dX4_speak_65 : decode cX4_speak 65 = .ok (.invokestatic 71, 3) := by decide +kernel
theorem dX4_speak_68 : decode cX4_speak 68 = .ok (.ifCond .ne 6, 3) := by decide +kernel
theorem dX4_speak_71 : decode cX4_speak 71 = .ok (.goto 55, 3) := by decide +kernel
theorem dX4_speak_74 : decode cX4_speak 74 = .ok (.aload_n 0, 1) := by decide +kernel
theorem dX4_speak_75 : decode cX4_speak 75 = .ok (.getfield 16, 3) := by decide +kernel
theorem dX4_speak_78 : decode cX4_speak 78 = .ok (.iconst 1, 1) := by decide +kernel
theorem dX4_speak_79 : decode cX4_speak 79 = .ok (.iload 7, 2) := by decide +kernel
theorem dX4_speak_81 : decode cX4_speak 81 = .ok (.bipush 10, 2) := by decide +kernel
theorem dX4_speak_83 : decode cX4_speak 83 = .ok (.idiv, 1) := by decide +kernel
theorem dX4_speak_84 : decode cX4_speak 84 = .ok (.iastore, 1) := by decide +kernel
theorem dX4_speak_85 : decode cX4_speak 85 = .ok (.aload_n 0, 1) := by decide +kernel
theorem dX4_speak_86 : decode cX4_speak 86 = .ok (.getfield 16, 3) := by decide +kernel
theorem dX4_speak_89 : decode cX4_speak 89 = .ok (.iconst 2, 1) := by decide +kernel
theorem dX4_speak_90 : decode cX4_speak 90 = .ok (.iload 7, 2) := by decide +kernel
theorem dX4_speak_92 : decode cX4_speak 92 = .ok (.bipush 10, 2) := by decide +kernel
theorem dX4_speak_94 : decode cX4_speak 94 = .ok (.irem, 1) := by decide +kernel
theorem dX4_speak_95 : decode cX4_speak 95 = .ok (.iastore, 1) := by decide +kernel
theorem dX4_speak_96 : decode cX4_speak 96 = .ok (.aload_n 0, 1) := by decide +kernel
theorem dX4_speak_97 : decode cX4_speak 97 = .ok (.iload_n 1, 1) := by decide +kernel
theorem dX4_speak_98 : decode cX4_speak 98 = .ok (.invokevirtual 179, 3) := by decide +kernel
theorem dX4_speak_101 : decode cX4_speak 101 = .ok (.bipush 41, 2) := by decide +kernel
theorem dX4_speak_103 : decode cX4_speak 103 = .ok (.invokestatic 188, 3) := by decide +kernel
theorem dX4_speak_106 : decode cX4_speak 106 = .ok (.istore 8, 2) := by decide +kernel
theorem dX4_speak_108 : decode cX4_speak 108 = .ok (.iload 8, 2) := by decide +kernel
theorem dX4_speak_110 : decode cX4_speak 110 = .ok (.iload 6, 2) := by decide +kernel
theorem dX4_speak_112 : decode cX4_speak 112 = .ok (.if_icmp .lt 6, 3) := by decide +kernel
theorem dX4_speak_115 : decode cX4_speak 115 = .ok (.goto 11, 3) := by decide +kernel
theorem dX4_speak_118 : decode cX4_speak 118 = .ok (.iload 7, 2) := by decide +kernel
theorem dX4_speak_120 : decode cX4_speak 120 = .ok (.istore 5, 2) := by decide +kernel
theorem dX4_speak_122 : decode cX4_speak 122 = .ok (.iload 8, 2) := by decide +kernel
theorem dX4_speak_124 : decode cX4_speak 124 = .ok (.istore 6, 2) := by decide +kernel
theorem dX4_speak_126 : decode cX4_speak 126 = .ok (.iinc 7 1, 3) := by decide +kernel
theorem dX4_speak_129 : decode cX4_speak 129 = .ok (.goto (-78), 3) := by decide +kernel
theorem dX4_speak_132 : decode cX4_speak 132 = .ok (.aload_n 0, 1) := by decide +kernel
theorem dX4_speak_133 : decode cX4_speak 133 = .ok (.getfield 16, 3) := by decide +kernel
theorem dX4_speak_136 : decode cX4_speak 136 = .ok (.iconst 1, 1) := by decide +kernel
theorem dX4_speak_137 : decode cX4_speak 137 = .ok (.iload_n 3, 1) := by decide +kernel
theorem dX4_speak_138 : decode cX4_speak 138 = .ok (.iastore, 1) := by decide +kernel
theorem dX4_speak_139 : decode cX4_speak 139 = .ok (.aload_n 0, 1) := by decide +kernel
theorem dX4_speak_140 : decode cX4_speak 140 = .ok (.getfield 16, 3) := by decide +kernel
theorem dX4_speak_143 : decode cX4_speak 143 = .ok (.iconst 2, 1) := by decide +kernel
theorem dX4_speak_144 : decode cX4_speak 144 = .ok (.iload 4, 2) := by decide +kernel
theorem dX4_speak_146 : decode cX4_speak 146 = .ok (.iastore, 1) := by decide +kernel
theorem dX4_speak_147 : decode cX4_speak 147 = .ok (.iload_n 2, 1) := by decide +kernel
theorem dX4_speak_148 : decode cX4_speak 148 = .ok (.ifCond .ne 8, 3) := by decide +kernel
theorem dX4_speak_151 : decode cX4_speak 151 = .ok (.iload 5, 2) := by decide +kernel
theorem dX4_speak_153 : decode cX4_speak 153 = .ok (.goto 5, 3) := by decide +kernel
theorem dX4_speak_156 : decode cX4_speak 156 = .ok (.iload 6, 2) := by decide +kernel
theorem dX4_speak_158 : decode cX4_speak 158 = .ok (.ireturn, 1) := by decide +kernel
theorem dX4_saying_0 : decode cX4_saying 0 = .ok (.iload_n 1, 1) := by decide +kernel
theorem dX4_saying_1 : decode cX4_saying 1 = .ok (.invokestatic 104, 3) := by decide +kernel
theorem dX4_saying_4 : decode cX4_saying 4 = .ok (.ifCond .ne 7, 3) := by decide +kernel
theorem dX4_saying_7 : decode cX4_saying 7 = .ok (.iconst (-1), 1) := by decide +kernel
theorem dX4_saying_8 : decode cX4_saying 8 = .ok (.goto 33, 3) := by decide +kernel
theorem dX4_saying_11 : decode cX4_saying 11 = .ok (.iload_n 2, 1) := by decide +kernel
theorem dX4_saying_12 : decode cX4_saying 12 = .ok (.iconst 0, 1) := by decide +kernel
theorem dX4_saying_13 : decode cX4_saying 13 = .ok (.bipush 8, 2) := by decide +kernel
theorem dX4_saying_15 : decode cX4_saying 15 = .ok (.invokestatic 71, 3) := by decide +kernel
theorem dX4_saying_18 : decode cX4_saying 18 = .ok (.ifCond .ne 8, 3) := by decide +kernel
theorem dX4_saying_21 : decode cX4_saying 21 = .ok (.bipush (-2), 2) := by decide +kernel
theorem dX4_saying_23 : decode cX4_saying 23 = .ok (.goto 18, 3) := by decide +kernel
theorem dX4_saying_26 : decode cX4_saying 26 = .ok (.aload_n 0, 1) := by decide +kernel
theorem dX4_saying_27 : decode cX4_saying 27 = .ok (.getfield 208, 3) := by decide +kernel
theorem dX4_saying_30 : decode cX4_saying 30 = .ok (.bipush 8, 2) := by decide +kernel
theorem dX4_saying_32 : decode cX4_saying 32 = .ok (.if_icmp .ne 8, 3) := by decide +kernel
theorem dX4_saying_35 : decode cX4_saying 35 = .ok (.bipush (-6), 2) := by decide +kernel
theorem dX4_saying_37 : decode cX4_saying 37 = .ok (.goto 4, 3) := by decide +kernel
theorem dX4_saying_40 : decode cX4_saying 40 = .ok (.iconst 0, 1) := by decide +kernel
theorem dX4_saying_41 : decode cX4_saying 41 = .ok (.istore_n 3, 1) := by decide +kernel
theorem dX4_saying_42 : decode cX4_saying 42 = .ok (.iload_n 3, 1) := by decide +kernel
theorem dX4_saying_43 : decode cX4_saying 43 = .ok (.ifCond .eq 9, 3) := by decide +kernel
theorem dX4_saying_46 : decode cX4_saying 46 = .ok (.aload_n 0, 1) := by decide +kernel
theorem dX4_saying_47 : decode cX4_saying 47 = .ok (.iload_n 3, 1) := by decide +kernel
theorem dX4_saying_48 : decode cX4_saying 48 = .ok (.invokevirtual 60, 3) := by decide +kernel
theorem dX4_saying_51 : decode cX4_saying 51 = .ok (.ireturn, 1) := by decide +kernel
theorem dX4_saying_52 : decode cX4_saying 52 = .ok (.aload_n 0, 1) := by decide +kernel
theorem dX4_saying_53 : decode cX4_saying 53 = .ok (.getfield 34, 3) := by decide +kernel
theorem dX4_saying_56 : decode cX4_saying 56 = .ok (.aload_n 0, 1) := by decide +kernel
theorem dX4_saying_57 : decode cX4_saying 57 = .ok (.getfield 208, 3) := by decide +kernel
theorem dX4_saying_60 : decode cX4_saying 60 = .ok (.iload_n 1, 1) := by decide +kernel
theorem dX4_saying_61 : decode cX4_saying 61 = .ok (.iastore, 1) := by decide +kernel
theorem dX4_saying_62 : decode cX4_saying 62 = .ok (.aload_n 0, 1) := by decide +kernel
theorem dX4_saying_63 : decode cX4_saying 63 = .ok (.getfield 37, 3) := by decide +kernel
theorem dX4_saying_66 : decode cX4_saying 66 = .ok (.aload_n 0, 1) := by decide +kernel
theorem dX4_saying_67 : decode cX4_saying 67 = .ok (.getfield 208, 3) := by decide +kernel
theorem dX4_saying_70 : decode cX4_saying 70 = .ok (.iload_n 2, 1) := by decide +kernel
theorem dX4_saying_71 : decode cX4_saying 71 = .ok (.iastore, 1) := by decide +kernel
theorem dX4_saying_72 : decode cX4_saying 72 = .ok (.aload_n 0, 1) := by decide +kernel
theorem dX4_saying_73 : decode cX4_saying 73 = .ok (.dup, 1) := by decide +kernel
theorem dX4_saying_74 : decode cX4_saying 74 = .ok (.getfield 208, 3) := by decide +kernel
theorem dX4_saying_77 : decode cX4_saying 77 = .ok (.iconst 1, 1) := by decide +kernel
theorem dX4_saying_78 : decode cX4_saying 78 = .ok (.iadd, 1) := by decide +kernel
theorem dX4_saying_79 : decode cX4_saying 79 = .ok (.putfield 208, 3) := by decide +kernel
theorem dX4_saying_82 : decode cX4_saying 82 = .ok (.aload_n 0, 1) := by decide +kernel
theorem dX4_saying_83 : decode cX4_saying 83 = .ok (.getfield 208, 3) := by decide +kernel
theorem dX4_saying_86 : decode cX4_saying 86 = .ok (.ireturn, 1) := by decide +kernel
theorem dX4_hush_0 : decode cX4_hush 0 = .ok (.aload_n 0, 1) := by decide +kernel
theorem dX4_hush_1 : decode cX4_hush 1 = .ok (.getfield 208, 3) := by decide +kernel
theorem dX4_hush_4 : decode cX4_hush 4 = .ok (.istore_n 1, 1) := by decide +kernel
theorem dX4_hush_5 : decode cX4_hush 5 = .ok (.aload_n 0, 1) := by decide +kernel
theorem dX4_hush_6 : decode cX4_hush 6 = .ok (.iconst 0, 1) := by decide +kernel
theorem dX4_hush_7 : decode cX4_hush 7 = .ok (.putfield 208, 3) := by decide +kernel
theorem dX4_hush_10 : decode cX4_hush 10 = .ok (.iload_n 1, 1) := by decide +kernel
theorem dX4_hush_11 : decode cX4_hush 11 = .ok (.ireturn, 1) := by decide +kernel
theorem dX4_rightBy_0 : decode cX4_rightBy 0 = .ok (.iconst 0, 1) := by decide +kernel
theorem dX4_rightBy_1 : decode cX4_rightBy 1 = .ok (.istore 4, 2) := by decide +kernel
theorem dX4_rightBy_3 : decode cX4_rightBy 3 = .ok (.iconst 0, 1) := by decide +kernel
theorem dX4_rightBy_4 : decode cX4_rightBy 4 = .ok (.istore 5, 2) := by decide +kernel
theorem dX4_rightBy_6 : decode cX4_rightBy 6 = .ok (.iload 5, 2) := by decide +kernel
theorem dX4_rightBy_8 : decode cX4_rightBy 8 = .ok (.aload_n 0, 1) := by decide +kernel
theorem dX4_rightBy_9 : decode cX4_rightBy 9 = .ok (.getfield 208, 3) := by decide +kernel
theorem dX4_rightBy_12 : decode cX4_rightBy 12 = .ok (.if_icmp .ge 43, 3) := by decide +kernel
theorem dX4_rightBy_15 : decode cX4_rightBy 15 = .ok (.iload 4, 2) := by decide +kernel
theorem dX4_rightBy_17 : decode cX4_rightBy 17 = .ok (.aload_n 0, 1) := by decide +kernel
theorem dX4_rightBy_18 : decode cX4_rightBy 18 = .ok (.aload_n 0, 1) := by decide +kernel
theorem dX4_rightBy_19 : decode cX4_rightBy 19 = .ok (.getfield 34, 3) := by decide +kernel
theorem dX4_rightBy_22 : decode cX4_rightBy 22 = .ok (.iload 5, 2) := by decide +kernel
theorem dX4_rightBy_24 : decode cX4_rightBy 24 = .ok (.iaload, 1) := by decide +kernel
theorem dX4_rightBy_25 : decode cX4_rightBy 25 = .ok (.iload_n 1, 1) := by decide +kernel
theorem dX4_rightBy_26 : decode cX4_rightBy 26 = .ok (.iload_n 2, 1) := by decide +kernel
theorem dX4_rightBy_27 : decode cX4_rightBy 27 = .ok (.iload_n 3, 1) := by decide +kernel
theorem dX4_rightBy_28 : decode cX4_rightBy 28 = .ok (.invokevirtual 163, 3) := by decide +kernel
theorem dX4_rightBy_31 : decode cX4_rightBy 31 = .ok (.aload_n 0, 1) := by decide +kernel
theorem dX4_rightBy_32 : decode cX4_rightBy 32 = .ok (.getfield 37, 3) := by decide +kernel
theorem dX4_rightBy_35 : decode cX4_rightBy 35 = .ok (.iload 5, 2) := by decide +kernel
theorem dX4_rightBy_37 : decode cX4_rightBy 37 = .ok (.iaload, 1) := by decide +kernel
theorem dX4_rightBy_38 : decode cX4_rightBy 38 = .ok (.if_icmp .ne 7, 3) := by decide +kernel
theorem dX4_rightBy_41 : decode cX4_rightBy 41 = .ok (.iconst 1, 1) := by decide +kernel
theorem dX4_rightBy_42 : decode cX4_rightBy 42 = .ok (.goto 4, 3) := by decide +kernel
theorem dX4_rightBy_45 : decode cX4_rightBy 45 = .ok (.iconst 0, 1) := by decide +kernel
theorem dX4_rightBy_46 : decode cX4_rightBy 46 = .ok (.iadd, 1) := by decide +kernel
theorem dX4_rightBy_47 : decode cX4_rightBy 47 = .ok (.istore 4, 2) := by decide +kernel
theorem dX4_rightBy_49 : decode cX4_rightBy 49 = .ok (.iinc 5 1, 3) := by decide +kernel
theorem dX4_rightBy_52 : decode cX4_rightBy 52 = .ok (.goto (-46), 3) := by decide +kernel
theorem dX4_rightBy_55 : decode cX4_rightBy 55 = .ok (.iload 4, 2) := by decide +kernel
theorem dX4_rightBy_57 : decode cX4_rightBy 57 = .ok (.ireturn, 1) := by decide +kernel
theorem dX4_mayBy_0 : decode cX4_mayBy 0 = .ok (.iconst 0, 1) := by decide +kernel
theorem dX4_mayBy_1 : decode cX4_mayBy 1 = .ok (.istore_n 3, 1) := by decide +kernel
theorem dX4_mayBy_2 : decode cX4_mayBy 2 = .ok (.iconst 0, 1) := by decide +kernel
theorem dX4_mayBy_3 : decode cX4_mayBy 3 = .ok (.istore 4, 2) := by decide +kernel
theorem dX4_mayBy_5 : decode cX4_mayBy 5 = .ok (.iload 4, 2) := by decide +kernel
theorem dX4_mayBy_7 : decode cX4_mayBy 7 = .ok (.bipush 24, 2) := by decide +kernel
theorem dX4_mayBy_9 : decode cX4_mayBy 9 = .ok (.if_icmp .ge 35, 3) := by decide +kernel
theorem dX4_mayBy_12 : decode cX4_mayBy 12 = .ok (.iload_n 3, 1) := by decide +kernel
theorem dX4_mayBy_13 : decode cX4_mayBy 13 = .ok (.aload_n 0, 1) := by decide +kernel
theorem dX4_mayBy_14 : decode cX4_mayBy 14 = .ok (.iload 4, 2) := by decide +kernel
theorem dX4_mayBy_16 : decode cX4_mayBy 16 = .ok (.iload_n 1, 1) := by decide +kernel
theorem dX4_mayBy_17 : decode cX4_mayBy 17 = .ok (.iload_n 2, 1) := by decide +kernel
theorem dX4_mayBy_18 : decode cX4_mayBy 18 = .ok (.invokevirtual 211, 3) := by decide +kernel
theorem dX4_mayBy_21 : decode cX4_mayBy 21 = .ok (.aload_n 0, 1) := by decide +kernel
theorem dX4_mayBy_22 : decode cX4_mayBy 22 = .ok (.getfield 208, 3) := by decide +kernel
theorem dX4_mayBy_25 : decode cX4_mayBy 25 = .ok (.if_icmp .ne 10, 3) := by decide +kernel
theorem dX4_mayBy_28 : decode cX4_mayBy 28 = .ok (.iconst 1, 1) := by decide +kernel
theorem dX4_mayBy_29 : decode cX4_mayBy 29 = .ok (.iload 4, 2) := by decide +kernel
theorem dX4_mayBy_31 : decode cX4_mayBy 31 = .ok (.ishl, 1) := by decide +kernel
theorem dX4_mayBy_32 : decode cX4_mayBy 32 = .ok (.goto 4, 3) := by decide +kernel
theorem dX4_mayBy_35 : decode cX4_mayBy 35 = .ok (.iconst 0, 1) := by decide +kernel
theorem dX4_mayBy_36 : decode cX4_mayBy 36 = .ok (.ior, 1) := by decide +kernel
theorem dX4_mayBy_37 : decode cX4_mayBy 37 = .ok (.istore_n 3, 1) := by decide +kernel
theorem dX4_mayBy_38 : decode cX4_mayBy 38 = .ok (.iinc 4 1, 3) := by decide +kernel
theorem dX4_mayBy_41 : decode cX4_mayBy 41 = .ok (.goto (-36), 3) := by decide +kernel
theorem dX4_mayBy_44 : decode cX4_mayBy 44 = .ok (.iload_n 3, 1) := by decide +kernel
theorem dX4_mayBy_45 : decode cX4_mayBy 45 = .ok (.ireturn, 1) := by decide +kernel
theorem dX4_may_0 : decode cX4_may 0 = .ok (.iload_n 1, 1) := by decide +kernel
theorem dX4_may_1 : decode cX4_may 1 = .ok (.iconst 0, 1) := by decide +kernel
theorem dX4_may_2 : decode cX4_may 2 = .ok (.iconst 1, 1) := by decide +kernel
theorem dX4_may_3 : decode cX4_may 3 = .ok (.invokestatic 71, 3) := by decide +kernel
theorem dX4_may_6 : decode cX4_may 6 = .ok (.ifCond .ne 10, 3) := by decide +kernel
theorem dX4_may_9 : decode cX4_may 9 = .ok (.aload_n 0, 1) := by decide +kernel
theorem dX4_may_10 : decode cX4_may 10 = .ok (.bipush (-2), 2) := by decide +kernel
theorem dX4_may_12 : decode cX4_may 12 = .ok (.invokevirtual 60, 3) := by decide +kernel
theorem dX4_may_15 : decode cX4_may 15 = .ok (.ireturn, 1) := by decide +kernel
theorem dX4_may_16 : decode cX4_may 16 = .ok (.iload_n 1, 1) := by decide +kernel
theorem dX4_may_17 : decode cX4_may 17 = .ok (.ifCond .ne 20, 3) := by decide +kernel
theorem dX4_may_20 : decode cX4_may 20 = .ok (.aload_n 0, 1) := by decide +kernel
theorem dX4_may_21 : decode cX4_may 21 = .ok (.aload_n 0, 1) := by decide +kernel
theorem dX4_may_22 : decode cX4_may 22 = .ok (.getfield 16, 3) := by decide +kernel
theorem dX4_may_25 : decode cX4_may 25 = .ok (.iconst 0, 1) := by decide +kernel
theorem dX4_may_26 : decode cX4_may 26 = .ok (.iaload, 1) := by decide +kernel
theorem dX4_may_27 : decode cX4_may 27 = .ok (.aload_n 0, 1) := by decide +kernel
theorem dX4_may_28 : decode cX4_may 28 = .ok (.getfield 16, 3) := by decide +kernel
theorem dX4_may_31 : decode cX4_may 31 = .ok (.iconst 2, 1) := by decide +kernel
theorem dX4_may_32 : decode cX4_may 32 = .ok (.iaload, 1) := by decide +kernel
theorem dX4_may_33 : decode cX4_may 33 = .ok (.invokevirtual 214, 3) := by decide +kernel
theorem dX4_may_36 : decode cX4_may 36 = .ok (.ireturn, 1) := by decide +kernel
theorem dX4_may_37 : decode cX4_may 37 = .ok (.iconst 0, 1) := by decide +kernel
theorem dX4_may_38 : decode cX4_may 38 = .ok (.istore_n 2, 1) := by decide +kernel
theorem dX4_may_39 : decode cX4_may 39 = .ok (.iconst 0, 1) := by decide +kernel
theorem dX4_may_40 : decode cX4_may 40 = .ok (.istore_n 3, 1) := by decide +kernel
theorem dX4_may_41 : decode cX4_may 41 = .ok (.iload_n 3, 1) := by decide +kernel
theorem dX4_may_42 : decode cX4_may 42 = .ok (.bipush 8, 2) := by decide +kernel
theorem dX4_may_44 : decode cX4_may 44 = .ok (.if_icmp .ge 24, 3) := by decide +kernel
theorem dX4_may_47 : decode cX4_may 47 = .ok (.iload_n 2, 1) := by decide +kernel
theorem dX4_may_48 : decode cX4_may 48 = .ok (.aload_n 0, 1) := by decide +kernel
theorem dX4_may_49 : decode cX4_may 49 = .ok (.iload_n 3, 1) := by decide +kernel
theorem dX4_may_50 : decode cX4_may 50 = .ok (.iconst 4, 1) := by decide +kernel
theorem dX4_may_51 : decode cX4_may 51 = .ok (.idiv, 1) := by decide +kernel
theorem dX4_may_52 : decode cX4_may 52 = .ok (.iconst 2, 1) := by decide +kernel
theorem dX4_may_53 : decode cX4_may 53 = .ok (.iload_n 3, 1) := by decide +kernel
theorem dX4_may_54 : decode cX4_may 54 = .ok (.iconst 4, 1) := by decide +kernel
theorem dX4_may_55 : decode cX4_may 55 = .ok (.irem, 1) := by decide +kernel
theorem dX4_may_56 : decode cX4_may 56 = .ok (.iadd, 1) := by decide +kernel
theorem dX4_may_57 : decode cX4_may 57 = .ok (.invokevirtual 214, 3) := by decide +kernel
theorem dX4_may_60 : decode cX4_may 60 = .ok (.ior, 1) := by decide +kernel
theorem dX4_may_61 : decode cX4_may 61 = .ok (.istore_n 2, 1) := by decide +kernel
theorem dX4_may_62 : decode cX4_may 62 = .ok (.iinc 3 1, 3) := by decide +kernel
theorem dX4_may_65 : decode cX4_may 65 = .ok (.goto (-24), 3) := by decide +kernel
theorem dX4_may_68 : decode cX4_may 68 = .ok (.iload_n 2, 1) := by decide +kernel
theorem dX4_may_69 : decode cX4_may 69 = .ok (.ireturn, 1) := by decide +kernel
theorem dX4_heMany_0 : decode cX4_heMany 0 = .ok (.iconst 0, 1) := by decide +kernel
theorem dX4_heMany_1 : decode cX4_heMany 1 = .ok (.istore_n 1, 1) := by decide +kernel
theorem dX4_heMany_2 : decode cX4_heMany 2 = .ok (.iconst 0, 1) := by decide +kernel
theorem dX4_heMany_3 : decode cX4_heMany 3 = .ok (.istore_n 2, 1) := by decide +kernel
theorem dX4_heMany_4 : decode cX4_heMany 4 = .ok (.iload_n 2, 1) := by decide +kernel
theorem dX4_heMany_5 : decode cX4_heMany 5 = .ok (.bipush 8, 2) := by decide +kernel
theorem dX4_heMany_7 : decode cX4_heMany 7 = .ok (.if_icmp .ge 32, 3) := by decide +kernel
theorem dX4_heMany_10 : decode cX4_heMany 10 = .ok (.iload_n 1, 1) := by decide +kernel
theorem dX4_heMany_11 : decode cX4_heMany 11 = .ok (.aload_n 0, 1) := by decide +kernel
theorem dX4_heMany_12 : decode cX4_heMany 12 = .ok (.iload_n 2, 1) := by decide +kernel
theorem dX4_heMany_13 : decode cX4_heMany 13 = .ok (.iconst 4, 1) := by decide +kernel
theorem dX4_heMany_14 : decode cX4_heMany 14 = .ok (.idiv, 1) := by decide +kernel
theorem dX4_heMany_15 : decode cX4_heMany 15 = .ok (.iconst 2, 1) := by decide +kernel
theorem dX4_heMany_16 : decode cX4_heMany 16 = .ok (.iload_n 2, 1) := by decide +kernel
theorem dX4_heMany_17 : decode cX4_heMany 17 = .ok (.iconst 4, 1) := by decide +kernel
theorem dX4_heMany_18 : decode cX4_heMany 18 = .ok (.irem, 1) := by decide +kernel
theorem dX4_heMany_19 : decode cX4_heMany 19 = .ok (.iadd, 1) := by decide +kernel
theorem dX4_heMany_20 : decode cX4_heMany 20 = .ok (.invokevirtual 214, 3) := by decide +kernel
theorem dX4_heMany_23 : decode cX4_heMany 23 = .ok (.ifCond .eq 7, 3) := by decide +kernel
theorem dX4_heMany_26 : decode cX4_heMany 26 = .ok (.iconst 1, 1) := by decide +kernel
theorem dX4_heMany_27 : decode cX4_heMany 27 = .ok (.goto 4, 3) := by decide +kernel
theorem dX4_heMany_30 : decode cX4_heMany 30 = .ok (.iconst 0, 1) := by decide +kernel
theorem dX4_heMany_31 : decode cX4_heMany 31 = .ok (.iadd, 1) := by decide +kernel
theorem dX4_heMany_32 : decode cX4_heMany 32 = .ok (.istore_n 1, 1) := by decide +kernel
theorem dX4_heMany_33 : decode cX4_heMany 33 = .ok (.iinc 2 1, 3) := by decide +kernel
theorem dX4_heMany_36 : decode cX4_heMany 36 = .ok (.goto (-32), 3) := by decide +kernel
theorem dX4_heMany_39 : decode cX4_heMany 39 = .ok (.iload_n 1, 1) := by decide +kernel
theorem dX4_heMany_40 : decode cX4_heMany 40 = .ok (.ireturn, 1) := by decide +kernel
theorem dX4_weightOf_0 : decode cX4_weightOf 0 = .ok (.lconst 1, 1) := by decide +kernel
theorem dX4_weightOf_1 : decode cX4_weightOf 1 = .ok (.lstore_n 2, 1) := by decide +kernel
theorem dX4_weightOf_2 : decode cX4_weightOf 2 = .ok (.aload_n 0, 1) := by decide +kernel
theorem dX4_weightOf_3 : decode cX4_weightOf 3 = .ok (.iload_n 1, 1) := by decide +kernel
theorem dX4_weightOf_4 : decode cX4_weightOf 4 = .ok (.aload_n 0, 1) := by decide +kernel
theorem dX4_weightOf_5 : decode cX4_weightOf 5 = .ok (.getfield 16, 3) := by decide +kernel
theorem dX4_weightOf_8 : decode cX4_weightOf 8 = .ok (.iconst 0, 1) := by decide +kernel
theorem dX4_weightOf_9 : decode cX4_weightOf 9 = .ok (.iaload, 1) := by decide +kernel
theorem dX4_weightOf_10 : decode cX4_weightOf 10 = .ok (.aload_n 0, 1) := by decide +kernel
theorem dX4_weightOf_11 : decode cX4_weightOf 11 = .ok (.getfield 16, 3) := by decide +kernel
theorem dX4_weightOf_14 : decode cX4_weightOf 14 = .ok (.iconst 2, 1) := by decide +kernel
theorem dX4_weightOf_15 : decode cX4_weightOf 15 = .ok (.iaload, 1) := by decide +kernel
theorem dX4_weightOf_16 : decode cX4_weightOf 16 = .ok (.invokevirtual 211, 3) := by decide +kernel
theorem dX4_weightOf_19 : decode cX4_weightOf 19 = .ok (.istore 4, 2) := by decide +kernel
theorem dX4_weightOf_21 : decode cX4_weightOf 21 = .ok (.iload 4, 2) := by decide +kernel
theorem dX4_weightOf_23 : decode cX4_weightOf 23 = .ok (.ifCond .le 15, 3) := by decide +kernel
theorem dX4_weightOf_26 : decode cX4_weightOf 26 = .ok (.lload_n 2, 1) := by decide +kernel
theorem dX4_weightOf_27 : decode cX4_weightOf 27 = .ok (.ldc2_w 217, 3) := by decide +kernel
theorem dX4_weightOf_30 : decode cX4_weightOf 30 = .ok (.lmul, 1) := by decide +kernel
theorem dX4_weightOf_31 : decode cX4_weightOf 31 = .ok (.lstore_n 2, 1) := by decide +kernel
theorem dX4_weightOf_32 : decode cX4_weightOf 32 = .ok (.iinc 4 (-1), 3) := by decide +kernel
theorem dX4_weightOf_35 : decode cX4_weightOf 35 = .ok (.goto (-14), 3) := by decide +kernel
theorem dX4_weightOf_38 : decode cX4_weightOf 38 = .ok (.lload_n 2, 1) := by decide +kernel
theorem dX4_weightOf_39 : decode cX4_weightOf 39 = .ok (.lreturn, 1) := by decide +kernel
theorem dX4_odds_0 : decode cX4_odds 0 = .ok (.iload_n 1, 1) := by decide +kernel
theorem dX4_odds_1 : decode cX4_odds 1 = .ok (.invokestatic 104, 3) := by decide +kernel
theorem dX4_odds_4 : decode cX4_odds 4 = .ok (.ifCond .ne 9, 3) := by decide +kernel
theorem dX4_odds_7 : decode cX4_odds 7 = .ok (.aload_n 0, 1) := by decide +kernel
theorem dX4_odds_8 : decode cX4_odds 8 = .ok (.iconst (-1), 1) := by decide +kernel
theorem dX4_odds_9 : decode cX4_odds 9 = .ok (.invokevirtual 195, 3) := by decide +kernel
theorem dX4_odds_12 : decode cX4_odds 12 = .ok (.lreturn, 1) := by decide +kernel
theorem dX4_odds_13 : decode cX4_odds 13 = .ok (.iload_n 2, 1) := by decide +kernel
theorem dX4_odds_14 : decode cX4_odds 14 = .ok (.iconst 0, 1) := by decide +kernel
theorem dX4_odds_15 : decode cX4_odds 15 = .ok (.iconst 1, 1) := by decide +kernel
theorem dX4_odds_16 : decode cX4_odds 16 = .ok (.invokestatic 71, 3) := by decide +kernel
theorem dX4_odds_19 : decode cX4_odds 19 = .ok (.ifCond .ne 10, 3) := by decide +kernel
theorem dX4_odds_22 : decode cX4_odds 22 = .ok (.aload_n 0, 1) := by decide +kernel
theorem dX4_odds_23 : decode cX4_odds 23 = .ok (.bipush (-2), 2) := by decide +kernel
theorem dX4_odds_25 : decode cX4_odds 25 = .ok (.invokevirtual 195, 3) := by decide +kernel
theorem dX4_odds_28 : decode cX4_odds 28 = .ok (.lreturn, 1) := by decide +kernel
theorem dX4_odds_29 : decode cX4_odds 29 = .ok (.lconst 0, 1) := by decide +kernel
theorem dX4_odds_30 : decode cX4_odds 30 = .ok (.lstore_n 3, 1) := by decide +kernel
theorem dX4_odds_31 : decode cX4_odds 31 = .ok (.iconst 0, 1) := by decide +kernel
theorem dX4_odds_32 : decode cX4_odds 32 = .ok (.istore 5, 2) := by decide +kernel
theorem dX4_odds_34 : decode cX4_odds 34 = .ok (.iload 5, 2) := by decide +kernel
theorem dX4_odds_36 : decode cX4_odds 36 = .ok (.bipush 24, 2) := by decide +kernel
theorem dX4_odds_38 : decode cX4_odds 38 = .ok (.if_icmp .ge 18, 3) := by decide +kernel
theorem dX4_odds_41 : decode cX4_odds 41 = .ok (.lload_n 3, 1) := by decide +kernel
theorem dX4_odds_42 : decode cX4_odds 42 = .ok (.aload_n 0, 1) := by decide +kernel
theorem dX4_odds_43 : decode cX4_odds 43 = .ok (.iload 5, 2) := by decide +kernel
theorem dX4_odds_45 : decode cX4_odds 45 = .ok (.invokevirtual 219, 3) := by decide +kernel
theorem dX4_odds_48 : decode cX4_odds 48 = .ok (.ladd, 1) := by decide +kernel
theorem dX4_odds_49 : decode cX4_odds 49 = .ok (.lstore_n 3, 1) := by decide +kernel
theorem dX4_odds_50 : decode cX4_odds 50 = .ok (.iinc 5 1, 3) := by decide +kernel
theorem dX4_odds_53 : decode cX4_odds 53 = .ok (.goto (-19), 3) := by decide +kernel
theorem dX4_odds_56 : decode cX4_odds 56 = .ok (.aload_n 0, 1) := by decide +kernel
theorem dX4_odds_57 : decode cX4_odds 57 = .ok (.iload_n 1, 1) := by decide +kernel
theorem dX4_odds_58 : decode cX4_odds 58 = .ok (.invokevirtual 219, 3) := by decide +kernel
theorem dX4_odds_61 : decode cX4_odds 61 = .ok (.lload_n 3, 1) := by decide +kernel
theorem dX4_odds_62 : decode cX4_odds 62 = .ok (.iload_n 2, 1) := by decide +kernel
theorem dX4_odds_63 : decode cX4_odds 63 = .ok (.invokestatic 204, 3) := by decide +kernel
theorem dX4_odds_66 : decode cX4_odds 66 = .ok (.lreturn, 1) := by decide +kernel
theorem dX4_worstFrom_0 : decode cX4_worstFrom 0 = .ok (.iconst 0, 1) := by decide +kernel
theorem dX4_worstFrom_1 : decode cX4_worstFrom 1 = .ok (.istore_n 3, 1) := by decide +kernel
theorem dX4_worstFrom_2 : decode cX4_worstFrom 2 = .ok (.iload_n 3, 1) := by decide +kernel
theorem dX4_worstFrom_3 : decode cX4_worstFrom 3 = .ok (.bipush 10, 2) := by decide +kernel
theorem dX4_worstFrom_5 : decode cX4_worstFrom 5 = .ok (.if_icmp .ge 16, 3) := by decide +kernel
theorem dX4_worstFrom_8 : decode cX4_worstFrom 8 = .ok (.aload_n 0, 1) := by decide +kernel
theorem dX4_worstFrom_9 : decode cX4_worstFrom 9 = .ok (.getfield 40, 3) := by decide +kernel
theorem dX4_worstFrom_12 : decode cX4_worstFrom 12 = .ok (.iload_n 3, 1) := by decide +kernel
theorem dX4_worstFrom_13 : decode cX4_worstFrom 13 = .ok (.iconst 0, 1) := by decide +kernel
theorem dX4_worstFrom_14 : decode cX4_worstFrom 14 = .ok (.iastore, 1) := by decide +kernel
theorem dX4_worstFrom_15 : decode cX4_worstFrom 15 = .ok (.iinc 3 1, 3) := by decide +kernel
theorem dX4_worstFrom_18 : decode cX4_worstFrom 18 = .ok (.goto (-16), 3) := by decide +kernel
theorem dX4_worstFrom_21 : decode cX4_worstFrom 21 = .ok (.iconst 0, 1) := by decide +kernel
theorem dX4_worstFrom_22 : decode cX4_worstFrom 22 = .ok (.istore_n 3, 1) := by decide +kernel
theorem dX4_worstFrom_23 : decode cX4_worstFrom 23 = .ok (.iconst 0, 1) := by decide +kernel
theorem dX4_worstFrom_24 : decode cX4_worstFrom 24 = .ok (.istore 4, 2) := by decide +kernel
theorem dX4_worstFrom_26 : decode cX4_worstFrom 26 = .ok (.iload 4, 2) := by decide +kernel
theorem dX4_worstFrom_28 : decode cX4_worstFrom 28 = .ok (.bipush 24, 2) := by decide +kernel
theorem dX4_worstFrom_30 : decode cX4_worstFrom 30 = .ok (.if_icmp .ge 64, 3) := by decide +kernel
theorem dX4_worstFrom_33 : decode cX4_worstFrom 33 = .ok (.iload_n 2, 1) := by decide +kernel
theorem dX4_worstFrom_34 : decode cX4_worstFrom 34 = .ok (.iload 4, 2) := by decide +kernel
theorem dX4_worstFrom_36 : decode cX4_worstFrom 36 = .ok (.ishr, 1) := by decide +kernel
theorem dX4_worstFrom_37 : decode cX4_worstFrom 37 = .ok (.iconst 1, 1) := by decide +kernel
theorem dX4_worstFrom_38 : decode cX4_worstFrom 38 = .ok (.iand, 1) := by decide +kernel
theorem dX4_worstFrom_39 : decode cX4_worstFrom 39 = .ok (.ifCond .ne 6, 3) := by decide +kernel
theorem dX4_worstFrom_42 : decode cX4_worstFrom 42 = .ok (.goto 46, 3) := by decide +kernel
theorem dX4_worstFrom_45 : decode cX4_worstFrom 45 = .ok (.aload_n 0, 1) := by decide +kernel
theorem dX4_worstFrom_46 : decode cX4_worstFrom 46 = .ok (.iload_n 1, 1) := by decide +kernel
theorem dX4_worstFrom_47 : decode cX4_worstFrom 47 = .ok (.iload 4, 2) := by decide +kernel
theorem dX4_worstFrom_49 : decode cX4_worstFrom 49 = .ok (.invokevirtual 170, 3) := by decide +kernel
theorem dX4_worstFrom_52 : decode cX4_worstFrom 52 = .ok (.istore 5, 2) := by decide +kernel
theorem dX4_worstFrom_54 : decode cX4_worstFrom 54 = .ok (.aload_n 0, 1) := by decide +kernel
theorem dX4_worstFrom_55 : decode cX4_worstFrom 55 = .ok (.getfield 40, 3) := by decide +kernel
theorem dX4_worstFrom_58 : decode cX4_worstFrom 58 = .ok (.iload 5, 2) := by decide +kernel
theorem dX4_worstFrom_60 : decode cX4_worstFrom 60 = .ok (.dup2, 1) := by decide +kernel
theorem dX4_worstFrom_61 : decode cX4_worstFrom 61 = .ok (.iaload, 1) := by decide +kernel
theorem dX4_worstFrom_62 : decode cX4_worstFrom 62 = .ok (.iconst 1, 1) := by decide +kernel
theorem dX4_worstFrom_63 : decode cX4_worstFrom 63 = .ok (.iadd, 1) := by decide +kernel
theorem dX4_worstFrom_64 : decode cX4_worstFrom 64 = .ok (.iastore, 1) := by decide +kernel
theorem dX4_worstFrom_65 : decode cX4_worstFrom 65 = .ok (.aload_n 0, 1) := by decide +kernel
theorem dX4_worstFrom_66 : decode cX4_worstFrom 66 = .ok (.getfield 40, 3) := by decide +kernel
theorem dX4_worstFrom_69 : decode cX4_worstFrom 69 = .ok (.iload 5, 2) := by decide +kernel
theorem dX4_worstFrom_71 : decode cX4_worstFrom 71 = .ok (.iaload, 1) := by decide +kernel
theorem dX4_worstFrom_72 : decode cX4_worstFrom 72 = .ok (.iload_n 3, 1) := by decide +kernel
theorem dX4_worstFrom_73 : decode cX4_worstFrom 73 = .ok (.if_icmp .le 13, 3) := by decide +kernel
theorem dX4_worstFrom_76 : decode cX4_worstFrom 76 = .ok (.aload_n 0, 1) := by decide +kernel
theorem dX4_worstFrom_77 : decode cX4_worstFrom 77 = .ok (.getfield 40, 3) := by decide +kernel
theorem dX4_worstFrom_80 : decode cX4_worstFrom 80 = .ok (.iload 5, 2) := by decide +kernel
theorem dX4_worstFrom_82 : decode cX4_worstFrom 82 = .ok (.iaload, 1) := by decide +kernel
theorem dX4_worstFrom_83 : decode cX4_worstFrom 83 = .ok (.goto 4, 3) := by decide +kernel
theorem dX4_worstFrom_86 : decode cX4_worstFrom 86 = .ok (.iload_n 3, 1) := by decide +kernel
theorem dX4_worstFrom_87 : decode cX4_worstFrom 87 = .ok (.istore_n 3, 1) := by decide +kernel
theorem dX4_worstFrom_88 : decode cX4_worstFrom 88 = .ok (.iinc 4 1, 3) := by decide +kernel
theorem dX4_worstFrom_91 : decode cX4_worstFrom 91 = .ok (.goto (-65), 3) := by decide +kernel
theorem dX4_worstFrom_94 : decode cX4_worstFrom 94 = .ok (.iload_n 3, 1) := by decide +kernel
theorem dX4_worstFrom_95 : decode cX4_worstFrom 95 = .ok (.ireturn, 1) := by decide +kernel
theorem dX4_next__0 : decode cX4_next_ 0 = .ok (.iload_n 1, 1) := by decide +kernel
theorem dX4_next__1 : decode cX4_next_ 1 = .ok (.iconst 0, 1) := by decide +kernel
theorem dX4_next__2 : decode cX4_next_ 2 = .ok (.iconst 1, 1) := by decide +kernel
theorem dX4_next__3 : decode cX4_next_ 3 = .ok (.invokestatic 71, 3) := by decide +kernel
theorem dX4_next__6 : decode cX4_next_ 6 = .ok (.ifCond .ne 10, 3) := by decide +kernel
theorem dX4_next__9 : decode cX4_next_ 9 = .ok (.aload_n 0, 1) := by decide +kernel
theorem dX4_next__10 : decode cX4_next_ 10 = .ok (.bipush (-2), 2) := by decide +kernel
theorem dX4_next__12 : decode cX4_next_ 12 = .ok (.invokevirtual 60, 3) := by decide +kernel
theorem dX4_next__15 : decode cX4_next_ 15 = .ok (.ireturn, 1) := by decide +kernel
theorem dX4_next__16 : decode cX4_next_ 16 = .ok (.aload_n 0, 1) := by decide +kernel
theorem dX4_next__17 : decode cX4_next_ 17 = .ok (.aload_n 0, 1) := by decide +kernel
theorem dX4_next__18 : decode cX4_next_ 18 = .ok (.getfield 16, 3) := by decide +kernel
theorem dX4_next__21 : decode cX4_next_ 21 = .ok (.iconst 0, 1) := by decide +kernel
theorem dX4_next__22 : decode cX4_next_ 22 = .ok (.iaload, 1) := by decide +kernel
theorem dX4_next__23 : decode cX4_next_ 23 = .ok (.aload_n 0, 1) := by decide +kernel
theorem dX4_next__24 : decode cX4_next_ 24 = .ok (.getfield 16, 3) := by decide +kernel
theorem dX4_next__27 : decode cX4_next_ 27 = .ok (.iconst 2, 1) := by decide +kernel
theorem dX4_next__28 : decode cX4_next_ 28 = .ok (.iaload, 1) := by decide +kernel
theorem dX4_next__29 : decode cX4_next_ 29 = .ok (.invokevirtual 214, 3) := by decide +kernel
theorem dX4_next__32 : decode cX4_next_ 32 = .ok (.istore_n 2, 1) := by decide +kernel
theorem dX4_next__33 : decode cX4_next_ 33 = .ok (.iload_n 2, 1) := by decide +kernel
theorem dX4_next__34 : decode cX4_next_ 34 = .ok (.ifCond .ne 6, 3) := by decide +kernel
theorem dX4_next__37 : decode cX4_next_ 37 = .ok (.bipush (-9), 2) := by decide +kernel
theorem dX4_next__39 : decode cX4_next_ 39 = .ok (.ireturn, 1) := by decide +kernel
theorem dX4_next__40 : decode cX4_next_ 40 = .ok (.bipush (-9), 2) := by decide +kernel
theorem dX4_next__42 : decode cX4_next_ 42 = .ok (.istore_n 3, 1) := by decide +kernel
theorem dX4_next__43 : decode cX4_next_ 43 = .ok (.bipush 99, 2) := by decide +kernel
theorem dX4_next__45 : decode cX4_next_ 45 = .ok (.istore 4, 2) := by decide +kernel
theorem dX4_next__47 : decode cX4_next_ 47 = .ok (.iconst 0, 1) := by decide +kernel
theorem dX4_next__48 : decode cX4_next_ 48 = .ok (.istore 5, 2) := by decide +kernel
theorem dX4_next__50 : decode cX4_next_ 50 = .ok (.iload 5, 2) := by decide +kernel
theorem dX4_next__52 : decode cX4_next_ 52 = .ok (.bipush 24, 2) := by decide +kernel
theorem dX4_next__54 : decode cX4_next_ 54 = .ok (.if_icmp .ge 35, 3) := by decide +kernel
theorem dX4_next__57 : decode cX4_next_ 57 = .ok (.aload_n 0, 1) := by decide +kernel
theorem dX4_next__58 : decode cX4_next_ 58 = .ok (.iload 5, 2) := by decide +kernel
theorem dX4_next__60 : decode cX4_next_ 60 = .ok (.iload_n 2, 1) := by decide +kernel
theorem dX4_next__61 : decode cX4_next_ 61 = .ok (.invokevirtual 222, 3) := by decide +kernel
theorem dX4_next__64 : decode cX4_next_ 64 = .ok (.istore 6, 2) := by decide +kernel
theorem dX4_next__66 : decode cX4_next_ 66 = .ok (.iload 6, 2) := by decide +kernel
theorem dX4_next__68 : decode cX4_next_ 68 = .ok (.iload 4, 2) := by decide +kernel
theorem dX4_next__70 : decode cX4_next_ 70 = .ok (.if_icmp .lt 6, 3) := by decide +kernel
theorem dX4_next__73 : decode cX4_next_ 73 = .ok (.goto 10, 3) := by decide +kernel
theorem dX4_next__76 : decode cX4_next_ 76 = .ok (.iload 5, 2) := by decide +kernel
theorem dX4_next__78 : decode cX4_next_ 78 = .ok (.istore_n 3, 1) := by decide +kernel
theorem dX4_next__79 : decode cX4_next_ 79 = .ok (.iload 6, 2) := by decide +kernel
theorem dX4_next__81 : decode cX4_next_ 81 = .ok (.istore 4, 2) := by decide +kernel
theorem dX4_next__83 : decode cX4_next_ 83 = .ok (.iinc 5 1, 3) := by decide +kernel
theorem dX4_next__86 : decode cX4_next_ 86 = .ok (.goto (-36), 3) := by decide +kernel
theorem dX4_next__89 : decode cX4_next_ 89 = .ok (.iload_n 1, 1) := by decide +kernel
theorem dX4_next__90 : decode cX4_next_ 90 = .ok (.ifCond .ne 7, 3) := by decide +kernel
theorem dX4_next__93 : decode cX4_next_ 93 = .ok (.iload_n 3, 1) := by decide +kernel
theorem dX4_next__94 : decode cX4_next_ 94 = .ok (.goto 5, 3) := by decide +kernel
theorem dX4_next__97 : decode cX4_next_ 97 = .ok (.iload 4, 2) := by decide +kernel
theorem dX4_next__99 : decode cX4_next_ 99 = .ok (.ireturn, 1) := by decide +kernel
theorem dX4_stripBy_0 : decode cX4_stripBy 0 = .ok (.aload_n 0, 1) := by decide +kernel
theorem dX4_stripBy_1 : decode cX4_stripBy 1 = .ok (.iconst 1, 1) := by decide +kernel
theorem dX4_stripBy_2 : decode cX4_stripBy 2 = .ok (.iconst 1, 1) := by decide +kernel
theorem dX4_stripBy_3 : decode cX4_stripBy 3 = .ok (.invokevirtual 121, 3) := by decide +kernel
theorem dX4_stripBy_6 : decode cX4_stripBy 6 = .ok (.iload_n 1, 1) := by decide +kernel
theorem dX4_stripBy_7 : decode cX4_stripBy 7 = .ok (.iconst 4, 1) := by decide +kernel
theorem dX4_stripBy_8 : decode cX4_stripBy 8 = .ok (.if_icmp .ge 8, 3) := by decide +kernel
theorem dX4_stripBy_11 : decode cX4_stripBy 11 = .ok (.bipush 6, 2) := by decide +kernel
theorem dX4_stripBy_13 : decode cX4_stripBy 13 = .ok (.goto 4, 3) := by decide +kernel
theorem dX4_stripBy_16 : decode cX4_stripBy 16 = .ok (.iconst 4, 1) := by decide +kernel
theorem dX4_stripBy_17 : decode cX4_stripBy 17 = .ok (.istore_n 2, 1) := by decide +kernel
theorem dX4_stripBy_18 : decode cX4_stripBy 18 = .ok (.iconst 0, 1) := by decide +kernel
theorem dX4_stripBy_19 : decode cX4_stripBy 19 = .ok (.istore_n 3, 1) := by decide +kernel
theorem dX4_stripBy_20 : decode cX4_stripBy 20 = .ok (.aload_n 0, 1) := by decide +kernel
theorem dX4_stripBy_21 : decode cX4_stripBy 21 = .ok (.getfield 101, 3) := by decide +kernel
theorem dX4_stripBy_24 : decode cX4_stripBy 24 = .ok (.bipush 24, 2) := by decide +kernel
theorem dX4_stripBy_26 : decode cX4_stripBy 26 = .ok (.if_icmp .eq 40, 3) := by decide +kernel
theorem dX4_stripBy_29 : decode cX4_stripBy 29 = .ok (.iload_n 3, 1) := by decide +kernel
theorem dX4_stripBy_30 : decode cX4_stripBy 30 = .ok (.iload_n 2, 1) := by decide +kernel
theorem dX4_stripBy_31 : decode cX4_stripBy 31 = .ok (.if_icmp .ge 35, 3) := by decide +kernel
theorem dX4_stripBy_34 : decode cX4_stripBy 34 = .ok (.aload_n 0, 1) := by decide +kernel
theorem dX4_stripBy_35 : decode cX4_stripBy 35 = .ok (.iload_n 1, 1) := by decide +kernel
theorem dX4_stripBy_36 : decode cX4_stripBy 36 = .ok (.iconst 4, 1) := by decide +kernel
theorem dX4_stripBy_37 : decode cX4_stripBy 37 = .ok (.if_icmp .ge 12, 3) := by decide +kernel
theorem dX4_stripBy_40 : decode cX4_stripBy 40 = .ok (.bipush 6, 2) := by decide +kernel
theorem dX4_stripBy_42 : decode cX4_stripBy 42 = .ok (.iload_n 1, 1) := by decide +kernel
theorem dX4_stripBy_43 : decode cX4_stripBy 43 = .ok (.imul, 1) := by decide +kernel
theorem dX4_stripBy_44 : decode cX4_stripBy 44 = .ok (.iload_n 3, 1) := by decide +kernel
theorem dX4_stripBy_45 : decode cX4_stripBy 45 = .ok (.iadd, 1) := by decide +kernel
theorem dX4_stripBy_46 : decode cX4_stripBy 46 = .ok (.goto 11, 3) := by decide +kernel
theorem dX4_stripBy_49 : decode cX4_stripBy 49 = .ok (.bipush 6, 2) := by decide +kernel
theorem dX4_stripBy_51 : decode cX4_stripBy 51 = .ok (.iload_n 3, 1) := by decide +kernel
theorem dX4_stripBy_52 : decode cX4_stripBy 52 = .ok (.imul, 1) := by decide +kernel
theorem dX4_stripBy_53 : decode cX4_stripBy 53 = .ok (.iload_n 1, 1) := by decide +kernel
theorem dX4_stripBy_54 : decode cX4_stripBy 54 = .ok (.iadd, 1) := by decide +kernel
theorem dX4_stripBy_55 : decode cX4_stripBy 55 = .ok (.iconst 4, 1) := by decide +kernel
theorem dX4_stripBy_56 : decode cX4_stripBy 56 = .ok (.isub, 1) := by decide +kernel
theorem dX4_stripBy_57 : decode cX4_stripBy 57 = .ok (.invokevirtual 113, 3) := by decide +kernel
theorem dX4_stripBy_60 : decode cX4_stripBy 60 = .ok (.iinc 3 1, 3) := by decide +kernel
theorem dX4_stripBy_63 : decode cX4_stripBy 63 = .ok (.goto (-43), 3) := by decide +kernel
theorem dX4_stripBy_66 : decode cX4_stripBy 66 = .ok (.aload_n 0, 1) := by decide +kernel
theorem dX4_stripBy_67 : decode cX4_stripBy 67 = .ok (.getfield 101, 3) := by decide +kernel
theorem dX4_stripBy_70 : decode cX4_stripBy 70 = .ok (.bipush 24, 2) := by decide +kernel
theorem dX4_stripBy_72 : decode cX4_stripBy 72 = .ok (.if_icmp .ne 7, 3) := by decide +kernel
theorem dX4_stripBy_75 : decode cX4_stripBy 75 = .ok (.iload_n 3, 1) := by decide +kernel
theorem dX4_stripBy_76 : decode cX4_stripBy 76 = .ok (.goto 5, 3) := by decide +kernel
theorem dX4_stripBy_79 : decode cX4_stripBy 79 = .ok (.bipush (-9), 2) := by decide +kernel
theorem dX4_stripBy_81 : decode cX4_stripBy 81 = .ok (.istore 4, 2) := by decide +kernel
theorem dX4_stripBy_83 : decode cX4_stripBy 83 = .ok (.aload_n 0, 1) := by decide +kernel
theorem dX4_stripBy_84 : decode cX4_stripBy 84 = .ok (.iconst 1, 1) := by decide +kernel
theorem dX4_stripBy_85 : decode cX4_stripBy 85 = .ok (.iconst 0, 1) := by decide +kernel
theorem dX4_stripBy_86 : decode cX4_stripBy 86 = .ok (.invokevirtual 121, 3) := by decide +kernel
theorem dX4_stripBy_89 : decode cX4_stripBy 89 = .ok (.iload 4, 2) := by decide +kernel
theorem dX4_stripBy_91 : decode cX4_stripBy 91 = .ok (.ireturn, 1) := by decide +kernel
theorem dX4_strip_0 : decode cX4_strip 0 = .ok (.iload_n 1, 1) := by decide +kernel
theorem dX4_strip_1 : decode cX4_strip 1 = .ok (.iconst 0, 1) := by decide +kernel
theorem dX4_strip_2 : decode cX4_strip 2 = .ok (.bipush 9, 2) := by decide +kernel
theorem dX4_strip_4 : decode cX4_strip 4 = .ok (.invokestatic 71, 3) := by decide +kernel
theorem dX4_strip_7 : decode cX4_strip 7 = .ok (.ifCond .eq 11, 3) := by decide +kernel
theorem dX4_strip_10 : decode cX4_strip 10 = .ok (.aload_n 0, 1) := by decide +kernel
theorem dX4_strip_11 : decode cX4_strip 11 = .ok (.iload_n 1, 1) := by decide +kernel
theorem dX4_strip_12 : decode cX4_strip 12 = .ok (.invokevirtual 225, 3) := by decide +kernel
theorem dX4_strip_15 : decode cX4_strip 15 = .ok (.goto 8, 3) := by decide +kernel
theorem dX4_strip_18 : decode cX4_strip 18 = .ok (.aload_n 0, 1) := by decide +kernel
theorem dX4_strip_19 : decode cX4_strip 19 = .ok (.iconst (-1), 1) := by decide +kernel
theorem dX4_strip_20 : decode cX4_strip 20 = .ok (.invokevirtual 60, 3) := by decide +kernel
theorem dX4_strip_23 : decode cX4_strip 23 = .ok (.ireturn, 1) := by decide +kernel
theorem dX4_bestStrip_0 : decode cX4_bestStrip 0 = .ok (.bipush (-9), 2) := by decide +kernel
theorem dX4_bestStrip_2 : decode cX4_bestStrip 2 = .ok (.istore_n 1, 1) := by decide +kernel
theorem dX4_bestStrip_3 : decode cX4_bestStrip 3 = .ok (.bipush 99, 2) := by decide +kernel
theorem dX4_bestStrip_5 : decode cX4_bestStrip 5 = .ok (.istore_n 2, 1) := by decide +kernel
theorem dX4_bestStrip_6 : decode cX4_bestStrip 6 = .ok (.iconst 0, 1) := by decide +kernel
theorem dX4_bestStrip_7 : decode cX4_bestStrip 7 = .ok (.istore_n 3, 1) := by decide +kernel
theorem dX4_bestStrip_8 : decode cX4_bestStrip 8 = .ok (.iload_n 3, 1) := by decide +kernel
theorem dX4_bestStrip_9 : decode cX4_bestStrip 9 = .ok (.bipush 10, 2) := by decide +kernel
theorem dX4_bestStrip_11 : decode cX4_bestStrip 11 = .ok (.if_icmp .ge 35, 3) := by decide +kernel
theorem dX4_bestStrip_14 : decode cX4_bestStrip 14 = .ok (.aload_n 0, 1) := by decide +kernel
theorem dX4_bestStrip_15 : decode cX4_bestStrip 15 = .ok (.iload_n 3, 1) := by decide +kernel
theorem dX4_bestStrip_16 : decode cX4_bestStrip 16 = .ok (.invokevirtual 225, 3) := by decide +kernel
theorem dX4_bestStrip_19 : decode cX4_bestStrip 19 = .ok (.bipush 99, 2) := by decide +kernel
theorem dX4_bestStrip_21 : decode cX4_bestStrip 21 = .ok (.invokestatic 188, 3) := by decide +kernel
theorem dX4_bestStrip_24 : decode cX4_bestStrip 24 = .ok (.istore 4, 2) := by decide +kernel
theorem dX4_bestStrip_26 : decode cX4_bestStrip 26 = .ok (.iload 4, 2) := by decide +kernel
theorem dX4_bestStrip_28 : decode cX4_bestStrip 28 = .ok (.iload_n 2, 1) := by decide +kernel
theorem dX4_bestStrip_29 : decode cX4_bestStrip 29 = .ok (.if_icmp .lt 6, 3) := by decide +kernel
theorem dX4_bestStrip_32 : decode cX4_bestStrip 32 = .ok (.goto 8, 3) := by decide +kernel
theorem dX4_bestStrip_35 : decode cX4_bestStrip 35 = .ok (.iload_n 3, 1) := by decide +kernel
theorem dX4_bestStrip_36 : decode cX4_bestStrip 36 = .ok (.istore_n 1, 1) := by decide +kernel
theorem dX4_bestStrip_37 : decode cX4_bestStrip 37 = .ok (.iload 4, 2) := by decide +kernel
theorem dX4_bestStrip_39 : decode cX4_bestStrip 39 = .ok (.istore_n 2, 1) := by decide +kernel
theorem dX4_bestStrip_40 : decode cX4_bestStrip 40 = .ok (.iinc 3 1, 3) := by decide +kernel
theorem dX4_bestStrip_43 : decode cX4_bestStrip 43 = .ok (.goto (-35), 3) := by decide +kernel
theorem dX4_bestStrip_46 : decode cX4_bestStrip 46 = .ok (.iload_n 1, 1) := by decide +kernel
theorem dX4_bestStrip_47 : decode cX4_bestStrip 47 = .ok (.ireturn, 1) := by decide +kernel
theorem dX4_doesGo_0 : decode cX4_doesGo 0 = .ok (.aload_n 0, 1) := by decide +kernel
theorem dX4_doesGo_1 : decode cX4_doesGo 1 = .ok (.iconst 1, 1) := by decide +kernel
theorem dX4_doesGo_2 : decode cX4_doesGo 2 = .ok (.iconst 1, 1) := by decide +kernel
theorem dX4_doesGo_3 : decode cX4_doesGo 3 = .ok (.invokevirtual 121, 3) := by decide +kernel
theorem dX4_doesGo_6 : decode cX4_doesGo 6 = .ok (.iconst 1, 1) := by decide +kernel
theorem dX4_doesGo_7 : decode cX4_doesGo 7 = .ok (.istore_n 3, 1) := by decide +kernel
theorem dX4_doesGo_8 : decode cX4_doesGo 8 = .ok (.iconst 1, 1) := by decide +kernel
theorem dX4_doesGo_9 : decode cX4_doesGo 9 = .ok (.istore 4, 2) := by decide +kernel
theorem dX4_doesGo_11 : decode cX4_doesGo 11 = .ok (.iload 4, 2) := by decide +kernel
theorem dX4_doesGo_13 : decode cX4_doesGo 13 = .ok (.iload_n 2, 1) := by decide +kernel
theorem dX4_doesGo_14 : decode cX4_doesGo 14 = .ok (.if_icmp .ge 14, 3) := by decide +kernel
theorem dX4_doesGo_17 : decode cX4_doesGo 17 = .ok (.iload_n 3, 1) := by decide +kernel
theorem dX4_doesGo_18 : decode cX4_doesGo 18 = .ok (.bipush 24, 2) := by decide +kernel
theorem dX4_doesGo_20 : decode cX4_doesGo 20 = .ok (.imul, 1) := by decide +kernel
theorem dX4_doesGo_21 : decode cX4_doesGo 21 = .ok (.istore_n 3, 1) := by decide +kernel
theorem dX4_doesGo_22 : decode cX4_doesGo 22 = .ok (.iinc 4 1, 3) := by decide +kernel
theorem dX4_doesGo_25 : decode cX4_doesGo 25 = .ok (.goto (-14), 3) := by decide +kernel
theorem dX4_doesGo_28 : decode cX4_doesGo 28 = .ok (.iconst 0, 1) := by decide +kernel
theorem dX4_doesGo_29 : decode cX4_doesGo 29 = .ok (.istore 4, 2) := by decide +kernel
theorem dX4_doesGo_31 : decode cX4_doesGo 31 = .ok (.iload 4, 2) := by decide +kernel
theorem dX4_doesGo_33 : decode cX4_doesGo 33 = .ok (.iload_n 2, 1) := by decide +kernel
theorem dX4_doesGo_34 : decode cX4_doesGo 34 = .ok (.if_icmp .ge 24, 3) := by decide +kernel
theorem dX4_doesGo_37 : decode cX4_doesGo 37 = .ok (.aload_n 0, 1) := by decide +kernel
theorem dX4_doesGo_38 : decode cX4_doesGo 38 = .ok (.iload_n 1, 1) := by decide +kernel
theorem dX4_doesGo_39 : decode cX4_doesGo 39 = .ok (.iload_n 3, 1) := by decide +kernel
theorem dX4_doesGo_40 : decode cX4_doesGo 40 = .ok (.idiv, 1) := by decide +kernel
theorem dX4_doesGo_41 : decode cX4_doesGo 41 = .ok (.bipush 24, 2) := by decide +kernel
theorem dX4_doesGo_43 : decode cX4_doesGo 43 = .ok (.irem, 1) := by decide +kernel
theorem dX4_doesGo_44 : decode cX4_doesGo 44 = .ok (.invokevirtual 113, 3) := by decide +kernel
theorem dX4_doesGo_47 : decode cX4_doesGo 47 = .ok (.iload_n 3, 1) := by decide +kernel
theorem dX4_doesGo_48 : decode cX4_doesGo 48 = .ok (.bipush 24, 2) := by decide +kernel
theorem dX4_doesGo_50 : decode cX4_doesGo 50 = .ok (.idiv, 1) := by decide +kernel
theorem dX4_doesGo_51 : decode cX4_doesGo 51 = .ok (.istore_n 3, 1) := by decide +kernel
theorem dX4_doesGo_52 : decode cX4_doesGo 52 = .ok (.iinc 4 1, 3) := by decide +kernel
theorem dX4_doesGo_55 : decode cX4_doesGo 55 = .ok (.goto (-24), 3) := by decide +kernel
theorem dX4_doesGo_58 : decode cX4_doesGo 58 = .ok (.aload_n 0, 1) := by decide +kernel
theorem dX4_doesGo_59 : decode cX4_doesGo 59 = .ok (.getfield 101, 3) := by decide +kernel
theorem dX4_doesGo_62 : decode cX4_doesGo 62 = .ok (.bipush 24, 2) := by decide +kernel
theorem dX4_doesGo_64 : decode cX4_doesGo 64 = .ok (.if_icmp .ne 7, 3) := by decide +kernel
theorem dX4_doesGo_67 : decode cX4_doesGo 67 = .ok (.iconst 1, 1) := by decide +kernel
theorem dX4_doesGo_68 : decode cX4_doesGo 68 = .ok (.goto 4, 3) := by decide +kernel
theorem dX4_doesGo_71 : decode cX4_doesGo 71 = .ok (.iconst 0, 1) := by decide +kernel
theorem dX4_doesGo_72 : decode cX4_doesGo 72 = .ok (.istore 4, 2) := by decide +kernel
theorem dX4_doesGo_74 : decode cX4_doesGo 74 = .ok (.aload_n 0, 1) := by decide +kernel
theorem dX4_doesGo_75 : decode cX4_doesGo 75 = .ok (.iconst 1, 1) := by decide +kernel
