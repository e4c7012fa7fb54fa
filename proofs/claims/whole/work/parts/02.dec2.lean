theorem dX3_heMany_25 : decode cX3_heMany 25 = .ok (.ifCond .eq 6, 3) := by decide +kernel
theorem dX3_heMany_28 : decode cX3_heMany 28 = .ok (.iinc 1 1, 3) := by decide +kernel
theorem dX3_heMany_31 : decode cX3_heMany 31 = .ok (.iinc 3 1, 3) := by decide +kernel
theorem dX3_heMany_34 : decode cX3_heMany 34 = .ok (.goto (-23), 3) := by decide +kernel
theorem dX3_heMany_37 : decode cX3_heMany 37 = .ok (.iinc 2 1, 3) := by decide +kernel
theorem dX3_heMany_40 : decode cX3_heMany 40 = .ok (.goto (-36), 3) := by decide +kernel
theorem dX3_heMany_43 : decode cX3_heMany 43 = .ok (.iload_n 1, 1) := by decide +kernel
theorem dX3_heMany_44 : decode cX3_heMany 44 = .ok (.ireturn, 1) := by decide +kernel
theorem dX3_odds_0 : decode cX3_odds 0 = .ok (.iload_n 1, 1) := by decide +kernel
theorem dX3_odds_1 : decode cX3_odds 1 = .ok (.invokestatic 85, 3) := by decide +kernel
theorem dX3_odds_4 : decode cX3_odds 4 = .ok (.ifCond .eq 9, 3) := by decide +kernel
theorem dX3_odds_7 : decode cX3_odds 7 = .ok (.aload_n 0, 1) := by decide +kernel
theorem dX3_odds_8 : decode cX3_odds 8 = .ok (.iconst (-1), 1) := by decide +kernel
theorem dX3_odds_9 : decode cX3_odds 9 = .ok (.invokevirtual 137, 3) := by decide +kernel
theorem dX3_odds_12 : decode cX3_odds 12 = .ok (.lreturn, 1) := by decide +kernel
theorem dX3_odds_13 : decode cX3_odds 13 = .ok (.iload_n 2, 1) := by decide +kernel
theorem dX3_odds_14 : decode cX3_odds 14 = .ok (.iconst 2, 1) := by decide +kernel
theorem dX3_odds_15 : decode cX3_odds 15 = .ok (.invokestatic 75, 3) := by decide +kernel
theorem dX3_odds_18 : decode cX3_odds 18 = .ok (.ifCond .eq 10, 3) := by decide +kernel
theorem dX3_odds_21 : decode cX3_odds 21 = .ok (.aload_n 0, 1) := by decide +kernel
theorem dX3_odds_22 : decode cX3_odds 22 = .ok (.bipush (-2), 2) := by decide +kernel
theorem dX3_odds_24 : decode cX3_odds 24 = .ok (.invokevirtual 137, 3) := by decide +kernel
theorem dX3_odds_27 : decode cX3_odds 27 = .ok (.lreturn, 1) := by decide +kernel
theorem dX3_odds_28 : decode cX3_odds 28 = .ok (.lconst 0, 1) := by decide +kernel
theorem dX3_odds_29 : decode cX3_odds 29 = .ok (.lstore_n 3, 1) := by decide +kernel
theorem dX3_odds_30 : decode cX3_odds 30 = .ok (.iconst 0, 1) := by decide +kernel
theorem dX3_odds_31 : decode cX3_odds 31 = .ok (.istore 5, 2) := by decide +kernel
theorem dX3_odds_33 : decode cX3_odds 33 = .ok (.iload 5, 2) := by decide +kernel
theorem dX3_odds_35 : decode cX3_odds 35 = .ok (.bipush 24, 2) := by decide +kernel
theorem dX3_odds_37 : decode cX3_odds 37 = .ok (.if_icmp .ge 18, 3) := by decide +kernel
theorem dX3_odds_40 : decode cX3_odds 40 = .ok (.lload_n 3, 1) := by decide +kernel
theorem dX3_odds_41 : decode cX3_odds 41 = .ok (.aload_n 0, 1) := by decide +kernel
theorem dX3_odds_42 : decode cX3_odds 42 = .ok (.iload 5, 2) := by decide +kernel
theorem dX3_odds_44 : decode cX3_odds 44 = .ok (.invokevirtual 161, 3) := by decide +kernel
theorem dX3_odds_47 : decode cX3_odds 47 = .ok (.ladd, 1) := by decide +kernel
theorem dX3_odds_48 : decode cX3_odds 48 = .ok (.lstore_n 3, 1) := by decide +kernel
theorem dX3_odds_49 : decode cX3_odds 49 = .ok (.iinc 5 1, 3) := by decide +kernel
theorem dX3_odds_52 : decode cX3_odds 52 = .ok (.goto (-19), 3) := by decide +kernel
theorem dX3_odds_55 : decode cX3_odds 55 = .ok (.aload_n 0, 1) := by decide +kernel
theorem dX3_odds_56 : decode cX3_odds 56 = .ok (.iload_n 1, 1) := by decide +kernel
theorem dX3_odds_57 : decode cX3_odds 57 = .ok (.invokevirtual 161, 3) := by decide +kernel
theorem dX3_odds_60 : decode cX3_odds 60 = .ok (.lload_n 3, 1) := by decide +kernel
theorem dX3_odds_61 : decode cX3_odds 61 = .ok (.iload_n 2, 1) := by decide +kernel
theorem dX3_odds_62 : decode cX3_odds 62 = .ok (.invokestatic 148, 3) := by decide +kernel
theorem dX3_odds_65 : decode cX3_odds 65 = .ok (.lreturn, 1) := by decide +kernel
theorem dX3_next_0 : decode cX3_next 0 = .ok (.iload_n 1, 1) := by decide +kernel
theorem dX3_next_1 : decode cX3_next 1 = .ok (.iconst 2, 1) := by decide +kernel
theorem dX3_next_2 : decode cX3_next 2 = .ok (.invokestatic 75, 3) := by decide +kernel
theorem dX3_next_5 : decode cX3_next 5 = .ok (.ifCond .eq 10, 3) := by decide +kernel
theorem dX3_next_8 : decode cX3_next 8 = .ok (.aload_n 0, 1) := by decide +kernel
theorem dX3_next_9 : decode cX3_next 9 = .ok (.bipush (-2), 2) := by decide +kernel
theorem dX3_next_11 : decode cX3_next 11 = .ok (.invokevirtual 57, 3) := by decide +kernel
theorem dX3_next_14 : decode cX3_next 14 = .ok (.ireturn, 1) := by decide +kernel
theorem dX3_next_15 : decode cX3_next 15 = .ok (.aload_n 0, 1) := by decide +kernel
theorem dX3_next_16 : decode cX3_next 16 = .ok (.getfield 35, 3) := by decide +kernel
theorem dX3_next_19 : decode cX3_next 19 = .ok (.aload_n 0, 1) := by decide +kernel
theorem dX3_next_20 : decode cX3_next 20 = .ok (.getfield 10, 3) := by decide +kernel
theorem dX3_next_23 : decode cX3_next 23 = .ok (.getfield 120, 3) := by decide +kernel
theorem dX3_next_26 : decode cX3_next 26 = .ok (.aload_n 0, 1) := by decide +kernel
theorem dX3_next_27 : decode cX3_next 27 = .ok (.getfield 10, 3) := by decide +kernel
theorem dX3_next_30 : decode cX3_next 30 = .ok (.getfield 123, 3) := by decide +kernel
theorem dX3_next_33 : decode cX3_next 33 = .ok (.invokevirtual 158, 3) := by decide +kernel
theorem dX3_next_36 : decode cX3_next 36 = .ok (.istore_n 2, 1) := by decide +kernel
theorem dX3_next_37 : decode cX3_next 37 = .ok (.iload_n 2, 1) := by decide +kernel
theorem dX3_next_38 : decode cX3_next 38 = .ok (.ifCond .ne 6, 3) := by decide +kernel
theorem dX3_next_41 : decode cX3_next 41 = .ok (.bipush (-9), 2) := by decide +kernel
theorem dX3_next_43 : decode cX3_next 43 = .ok (.ireturn, 1) := by decide +kernel
theorem dX3_next_44 : decode cX3_next 44 = .ok (.iconst 0, 1) := by decide +kernel
theorem dX3_next_45 : decode cX3_next 45 = .ok (.istore_n 3, 1) := by decide +kernel
theorem dX3_next_46 : decode cX3_next 46 = .ok (.bipush 25, 2) := by decide +kernel
theorem dX3_next_48 : decode cX3_next 48 = .ok (.istore 4, 2) := by decide +kernel
theorem dX3_next_50 : decode cX3_next 50 = .ok (.iconst 0, 1) := by decide +kernel
theorem dX3_next_51 : decode cX3_next 51 = .ok (.istore 5, 2) := by decide +kernel
theorem dX3_next_53 : decode cX3_next 53 = .ok (.iload 5, 2) := by decide +kernel
theorem dX3_next_55 : decode cX3_next 55 = .ok (.bipush 24, 2) := by decide +kernel
theorem dX3_next_57 : decode cX3_next 57 = .ok (.if_icmp .ge 32, 3) := by decide +kernel
theorem dX3_next_60 : decode cX3_next 60 = .ok (.aload_n 0, 1) := by decide +kernel
theorem dX3_next_61 : decode cX3_next 61 = .ok (.iload 5, 2) := by decide +kernel
theorem dX3_next_63 : decode cX3_next 63 = .ok (.iload_n 2, 1) := by decide +kernel
theorem dX3_next_64 : decode cX3_next 64 = .ok (.invokevirtual 164, 3) := by decide +kernel
theorem dX3_next_67 : decode cX3_next 67 = .ok (.istore 6, 2) := by decide +kernel
theorem dX3_next_69 : decode cX3_next 69 = .ok (.iload 6, 2) := by decide +kernel
theorem dX3_next_71 : decode cX3_next 71 = .ok (.iload 4, 2) := by decide +kernel
theorem dX3_next_73 : decode cX3_next 73 = .ok (.if_icmp .ge 10, 3) := by decide +kernel
theorem dX3_next_76 : decode cX3_next 76 = .ok (.iload 6, 2) := by decide +kernel
theorem dX3_next_78 : decode cX3_next 78 = .ok (.istore 4, 2) := by decide +kernel
theorem dX3_next_80 : decode cX3_next 80 = .ok (.iload 5, 2) := by decide +kernel
theorem dX3_next_82 : decode cX3_next 82 = .ok (.istore_n 3, 1) := by decide +kernel
theorem dX3_next_83 : decode cX3_next 83 = .ok (.iinc 5 1, 3) := by decide +kernel
theorem dX3_next_86 : decode cX3_next 86 = .ok (.goto (-33), 3) := by decide +kernel
theorem dX3_next_89 : decode cX3_next 89 = .ok (.iload_n 1, 1) := by decide +kernel
theorem dX3_next_90 : decode cX3_next 90 = .ok (.ifCond .ne 7, 3) := by decide +kernel
theorem dX3_next_93 : decode cX3_next 93 = .ok (.iload_n 3, 1) := by decide +kernel
theorem dX3_next_94 : decode cX3_next 94 = .ok (.goto 5, 3) := by decide +kernel
theorem dX3_next_97 : decode cX3_next 97 = .ok (.iload 4, 2) := by decide +kernel
theorem dX3_next_99 : decode cX3_next 99 = .ok (.ireturn, 1) := by decide +kernel
theorem dX3_strip_0 : decode cX3_strip 0 = .ok (.iload_n 1, 1) := by decide +kernel
theorem dX3_strip_1 : decode cX3_strip 1 = .ok (.bipush 10, 2) := by decide +kernel
theorem dX3_strip_3 : decode cX3_strip 3 = .ok (.invokestatic 75, 3) := by decide +kernel
theorem dX3_strip_6 : decode cX3_strip 6 = .ok (.ifCond .eq 11, 3) := by decide +kernel
theorem dX3_strip_9 : decode cX3_strip 9 = .ok (.aload_n 0, 1) := by decide +kernel
theorem dX3_strip_10 : decode cX3_strip 10 = .ok (.iconst (-1), 1) := by decide +kernel
theorem dX3_strip_11 : decode cX3_strip 11 = .ok (.invokevirtual 57, 3) := by decide +kernel
theorem dX3_strip_14 : decode cX3_strip 14 = .ok (.goto 8, 3) := by decide +kernel
theorem dX3_strip_17 : decode cX3_strip 17 = .ok (.aload_n 0, 1) := by decide +kernel
theorem dX3_strip_18 : decode cX3_strip 18 = .ok (.iload_n 1, 1) := by decide +kernel
theorem dX3_strip_19 : decode cX3_strip 19 = .ok (.invokevirtual 167, 3) := by decide +kernel
theorem dX3_strip_22 : decode cX3_strip 22 = .ok (.ireturn, 1) := by decide +kernel
theorem dX3_bestStrip_0 : decode cX3_bestStrip 0 = .ok (.bipush (-9), 2) := by decide +kernel
theorem dX3_bestStrip_2 : decode cX3_bestStrip 2 = .ok (.istore_n 1, 1) := by decide +kernel
theorem dX3_bestStrip_3 : decode cX3_bestStrip 3 = .ok (.bipush 24, 2) := by decide +kernel
theorem dX3_bestStrip_5 : decode cX3_bestStrip 5 = .ok (.istore_n 2, 1) := by decide +kernel
theorem dX3_bestStrip_6 : decode cX3_bestStrip 6 = .ok (.iconst 0, 1) := by decide +kernel
theorem dX3_bestStrip_7 : decode cX3_bestStrip 7 = .ok (.istore_n 3, 1) := by decide +kernel
theorem dX3_bestStrip_8 : decode cX3_bestStrip 8 = .ok (.iload_n 3, 1) := by decide +kernel
theorem dX3_bestStrip_9 : decode cX3_bestStrip 9 = .ok (.bipush 10, 2) := by decide +kernel
theorem dX3_bestStrip_11 : decode cX3_bestStrip 11 = .ok (.if_icmp .ge 34, 3) := by decide +kernel
theorem dX3_bestStrip_14 : decode cX3_bestStrip 14 = .ok (.aload_n 0, 1) := by decide +kernel
theorem dX3_bestStrip_15 : decode cX3_bestStrip 15 = .ok (.iload_n 3, 1) := by decide +kernel
theorem dX3_bestStrip_16 : decode cX3_bestStrip 16 = .ok (.invokevirtual 167, 3) := by decide +kernel
theorem dX3_bestStrip_19 : decode cX3_bestStrip 19 = .ok (.istore 4, 2) := by decide +kernel
theorem dX3_bestStrip_21 : decode cX3_bestStrip 21 = .ok (.iload 4, 2) := by decide +kernel
theorem dX3_bestStrip_23 : decode cX3_bestStrip 23 = .ok (.bipush (-9), 2) := by decide +kernel
theorem dX3_bestStrip_25 : decode cX3_bestStrip 25 = .ok (.if_icmp .eq 14, 3) := by decide +kernel
theorem dX3_bestStrip_28 : decode cX3_bestStrip 28 = .ok (.iload 4, 2) := by decide +kernel
theorem dX3_bestStrip_30 : decode cX3_bestStrip 30 = .ok (.iload_n 2, 1) := by decide +kernel
theorem dX3_bestStrip_31 : decode cX3_bestStrip 31 = .ok (.if_icmp .ge 8, 3) := by decide +kernel
theorem dX3_bestStrip_34 : decode cX3_bestStrip 34 = .ok (.iload 4, 2) := by decide +kernel
theorem dX3_bestStrip_36 : decode cX3_bestStrip 36 = .ok (.istore_n 2, 1) := by decide +kernel
theorem dX3_bestStrip_37 : decode cX3_bestStrip 37 = .ok (.iload_n 3, 1) := by decide +kernel
theorem dX3_bestStrip_38 : decode cX3_bestStrip 38 = .ok (.istore_n 1, 1) := by decide +kernel
theorem dX3_bestStrip_39 : decode cX3_bestStrip 39 = .ok (.iinc 3 1, 3) := by decide +kernel
theorem dX3_bestStrip_42 : decode cX3_bestStrip 42 = .ok (.goto (-34), 3) := by decide +kernel
theorem dX3_bestStrip_45 : decode cX3_bestStrip 45 = .ok (.iload_n 1, 1) := by decide +kernel
theorem dX3_bestStrip_46 : decode cX3_bestStrip 46 = .ok (.ireturn, 1) := by decide +kernel
theorem dX3_fewest_0 : decode cX3_fewest 0 = .ok (.iload_n 1, 1) := by decide +kernel
theorem dX3_fewest_1 : decode cX3_fewest 1 = .ok (.iconst 2, 1) := by decide +kernel
theorem dX3_fewest_2 : decode cX3_fewest 2 = .ok (.invokestatic 75, 3) := by decide +kernel
theorem dX3_fewest_5 : decode cX3_fewest 5 = .ok (.ifCond .eq 10, 3) := by decide +kernel
theorem dX3_fewest_8 : decode cX3_fewest 8 = .ok (.aload_n 0, 1) := by decide +kernel
theorem dX3_fewest_9 : decode cX3_fewest 9 = .ok (.bipush (-2), 2) := by decide +kernel
theorem dX3_fewest_11 : decode cX3_fewest 11 = .ok (.invokevirtual 57, 3) := by decide +kernel
theorem dX3_fewest_14 : decode cX3_fewest 14 = .ok (.ireturn, 1) := by decide +kernel
theorem dX3_fewest_15 : decode cX3_fewest 15 = .ok (.aload_n 0, 1) := by decide +kernel
theorem dX3_fewest_16 : decode cX3_fewest 16 = .ok (.getfield 10, 3) := by decide +kernel
theorem dX3_fewest_19 : decode cX3_fewest 19 = .ok (.getfield 82, 3) := by decide +kernel
theorem dX3_fewest_22 : decode cX3_fewest 22 = .ok (.bipush 24, 2) := by decide +kernel
theorem dX3_fewest_24 : decode cX3_fewest 24 = .ok (.if_icmp .ne 14, 3) := by decide +kernel
theorem dX3_fewest_27 : decode cX3_fewest 27 = .ok (.iload_n 1, 1) := by decide +kernel
theorem dX3_fewest_28 : decode cX3_fewest 28 = .ok (.ifCond .ne 7, 3) := by decide +kernel
theorem dX3_fewest_31 : decode cX3_fewest 31 = .ok (.iconst 0, 1) := by decide +kernel
theorem dX3_fewest_32 : decode cX3_fewest 32 = .ok (.goto 5, 3) := by decide +kernel
theorem dX3_fewest_35 : decode cX3_fewest 35 = .ok (.bipush (-9), 2) := by decide +kernel
theorem dX3_fewest_37 : decode cX3_fewest 37 = .ok (.ireturn, 1) := by decide +kernel
theorem dX3_fewest_38 : decode cX3_fewest 38 = .ok (.iconst 1, 1) := by decide +kernel
theorem dX3_fewest_39 : decode cX3_fewest 39 = .ok (.istore_n 2, 1) := by decide +kernel
theorem dX3_fewest_40 : decode cX3_fewest 40 = .ok (.iload_n 2, 1) := by decide +kernel
theorem dX3_fewest_41 : decode cX3_fewest 41 = .ok (.iconst 3, 1) := by decide +kernel
theorem dX3_fewest_42 : decode cX3_fewest 42 = .ok (.if_icmp .gt 31, 3) := by decide +kernel
theorem dX3_fewest_45 : decode cX3_fewest 45 = .ok (.aload_n 0, 1) := by decide +kernel
theorem dX3_fewest_46 : decode cX3_fewest 46 = .ok (.iload_n 2, 1) := by decide +kernel
theorem dX3_fewest_47 : decode cX3_fewest 47 = .ok (.invokevirtual 170, 3) := by decide +kernel
theorem dX3_fewest_50 : decode cX3_fewest 50 = .ok (.istore_n 3, 1) := by decide +kernel
theorem dX3_fewest_51 : decode cX3_fewest 51 = .ok (.iload_n 3, 1) := by decide +kernel
theorem dX3_fewest_52 : decode cX3_fewest 52 = .ok (.bipush (-9), 2) := by decide +kernel
theorem dX3_fewest_54 : decode cX3_fewest 54 = .ok (.if_icmp .eq 13, 3) := by decide +kernel
theorem dX3_fewest_57 : decode cX3_fewest 57 = .ok (.iload_n 1, 1) := by decide +kernel
theorem dX3_fewest_58 : decode cX3_fewest 58 = .ok (.ifCond .ne 7, 3) := by decide +kernel
theorem dX3_fewest_61 : decode cX3_fewest 61 = .ok (.iload_n 2, 1) := by decide +kernel
theorem dX3_fewest_62 : decode cX3_fewest 62 = .ok (.goto 4, 3) := by decide +kernel
theorem dX3_fewest_65 : decode cX3_fewest 65 = .ok (.iload_n 3, 1) := by decide +kernel
theorem dX3_fewest_66 : decode cX3_fewest 66 = .ok (.ireturn, 1) := by decide +kernel
theorem dX3_fewest_67 : decode cX3_fewest 67 = .ok (.iinc 2 1, 3) := by decide +kernel
theorem dX3_fewest_70 : decode cX3_fewest 70 = .ok (.goto (-30), 3) := by decide +kernel
theorem dX3_fewest_73 : decode cX3_fewest 73 = .ok (.bipush (-9), 2) := by decide +kernel
theorem dX3_fewest_75 : decode cX3_fewest 75 = .ok (.ireturn, 1) := by decide +kernel
theorem dX3_bears_0 : decode cX3_bears 0 = .ok (.iload_n 1, 1) := by decide +kernel
theorem dX3_bears_1 : decode cX3_bears 1 = .ok (.invokestatic 85, 3) := by decide +kernel
theorem dX3_bears_4 : decode cX3_bears 4 = .ok (.ifCond .ne 15, 3) := by decide +kernel
theorem dX3_bears_7 : decode cX3_bears 7 = .ok (.iload_n 2, 1) := by decide +kernel
theorem dX3_bears_8 : decode cX3_bears 8 = .ok (.invokestatic 85, 3) := by decide +kernel
theorem dX3_bears_11 : decode cX3_bears 11 = .ok (.ifCond .ne 8, 3) := by decide +kernel
theorem dX3_bears_14 : decode cX3_bears 14 = .ok (.iload_n 1, 1) := by decide +kernel
theorem dX3_bears_15 : decode cX3_bears 15 = .ok (.iload_n 2, 1) := by decide +kernel
theorem dX3_bears_16 : decode cX3_bears 16 = .ok (.if_icmp .ne 9, 3) := by decide +kernel
theorem dX3_bears_19 : decode cX3_bears 19 = .ok (.aload_n 0, 1) := by decide +kernel
theorem dX3_bears_20 : decode cX3_bears 20 = .ok (.iconst (-1), 1) := by decide +kernel
theorem dX3_bears_21 : decode cX3_bears 21 = .ok (.invokevirtual 57, 3) := by decide +kernel
theorem dX3_bears_24 : decode cX3_bears 24 = .ok (.ireturn, 1) := by decide +kernel
theorem dX3_bears_25 : decode cX3_bears 25 = .ok (.aload_n 0, 1) := by decide +kernel
theorem dX3_bears_26 : decode cX3_bears 26 = .ok (.getfield 10, 3) := by decide +kernel
theorem dX3_bears_29 : decode cX3_bears 29 = .ok (.iload_n 1, 1) := by decide +kernel
theorem dX3_bears_30 : decode cX3_bears 30 = .ok (.invokevirtual 89, 3) := by decide +kernel
theorem dX3_bears_33 : decode cX3_bears 33 = .ok (.aload_n 0, 1) := by decide +kernel
theorem dX3_bears_34 : decode cX3_bears 34 = .ok (.getfield 10, 3) := by decide +kernel
theorem dX3_bears_37 : decode cX3_bears 37 = .ok (.iload_n 2, 1) := by decide +kernel
theorem dX3_bears_38 : decode cX3_bears 38 = .ok (.invokevirtual 89, 3) := by decide +kernel
theorem dX3_bears_41 : decode cX3_bears 41 = .ok (.isub, 1) := by decide +kernel
theorem dX3_bears_42 : decode cX3_bears 42 = .ok (.istore_n 3, 1) := by decide +kernel
theorem dX3_bears_43 : decode cX3_bears 43 = .ok (.iload_n 3, 1) := by decide +kernel
theorem dX3_bears_44 : decode cX3_bears 44 = .ok (.ifCond .ne 21, 3) := by decide +kernel
theorem dX3_bears_47 : decode cX3_bears 47 = .ok (.aload_n 0, 1) := by decide +kernel
theorem dX3_bears_48 : decode cX3_bears 48 = .ok (.getfield 10, 3) := by decide +kernel
theorem dX3_bears_51 : decode cX3_bears 51 = .ok (.iload_n 1, 1) := by decide +kernel
theorem dX3_bears_52 : decode cX3_bears 52 = .ok (.invokevirtual 173, 3) := by decide +kernel
theorem dX3_bears_55 : decode cX3_bears 55 = .ok (.aload_n 0, 1) := by decide +kernel
theorem dX3_bears_56 : decode cX3_bears 56 = .ok (.getfield 10, 3) := by decide +kernel
theorem dX3_bears_59 : decode cX3_bears 59 = .ok (.iload_n 2, 1) := by decide +kernel
theorem dX3_bears_60 : decode cX3_bears 60 = .ok (.invokevirtual 173, 3) := by decide +kernel
theorem dX3_bears_63 : decode cX3_bears 63 = .ok (.isub, 1) := by decide +kernel
theorem dX3_bears_64 : decode cX3_bears 64 = .ok (.istore_n 3, 1) := by decide +kernel
theorem dX3_bears_65 : decode cX3_bears 65 = .ok (.iload_n 3, 1) := by decide +kernel
theorem dX3_bears_66 : decode cX3_bears 66 = .ok (.ifCond .ne 7, 3) := by decide +kernel
theorem dX3_bears_69 : decode cX3_bears 69 = .ok (.iload_n 1, 1) := by decide +kernel
theorem dX3_bears_70 : decode cX3_bears 70 = .ok (.iload_n 2, 1) := by decide +kernel
theorem dX3_bears_71 : decode cX3_bears 71 = .ok (.isub, 1) := by decide +kernel
theorem dX3_bears_72 : decode cX3_bears 72 = .ok (.istore_n 3, 1) := by decide +kernel
theorem dX3_bears_73 : decode cX3_bears 73 = .ok (.iload_n 3, 1) := by decide +kernel
theorem dX3_bears_74 : decode cX3_bears 74 = .ok (.ifCond .ge 7, 3) := by decide +kernel
theorem dX3_bears_77 : decode cX3_bears 77 = .ok (.iload_n 1, 1) := by decide +kernel
theorem dX3_bears_78 : decode cX3_bears 78 = .ok (.goto 4, 3) := by decide +kernel
theorem dX3_bears_81 : decode cX3_bears 81 = .ok (.iload_n 2, 1) := by decide +kernel
theorem dX3_bears_82 : decode cX3_bears 82 = .ok (.ireturn, 1) := by decide +kernel
theorem dX3_grid_0 : decode cX3_grid 0 = .ok (.iload_n 1, 1) := by decide +kernel
theorem dX3_grid_1 : decode cX3_grid 1 = .ok (.iconst 1, 1) := by decide +kernel
theorem dX3_grid_2 : decode cX3_grid 2 = .ok (.if_icmp .lt 8, 3) := by decide +kernel
theorem dX3_grid_5 : decode cX3_grid 5 = .ok (.iload_n 2, 1) := by decide +kernel
theorem dX3_grid_6 : decode cX3_grid 6 = .ok (.iconst 1, 1) := by decide +kernel
theorem dX3_grid_7 : decode cX3_grid 7 = .ok (.if_icmp .ge 10, 3) := by decide +kernel
theorem dX3_grid_10 : decode cX3_grid 10 = .ok (.aload_n 0, 1) := by decide +kernel
theorem dX3_grid_11 : decode cX3_grid 11 = .ok (.bipush (-4), 2) := by decide +kernel
theorem dX3_grid_13 : decode cX3_grid 13 = .ok (.invokevirtual 57, 3) := by decide +kernel
theorem dX3_grid_16 : decode cX3_grid 16 = .ok (.ireturn, 1) := by decide +kernel
theorem dX3_grid_17 : decode cX3_grid 17 = .ok (.iload_n 1, 1) := by decide +kernel
theorem dX3_grid_18 : decode cX3_grid 18 = .ok (.iconst 4, 1) := by decide +kernel
theorem dX3_grid_19 : decode cX3_grid 19 = .ok (.if_icmp .gt 9, 3) := by decide +kernel
theorem dX3_grid_22 : decode cX3_grid 22 = .ok (.iload_n 2, 1) := by decide +kernel
theorem dX3_grid_23 : decode cX3_grid 23 = .ok (.bipush 6, 2) := by decide +kernel
theorem dX3_grid_25 : decode cX3_grid 25 = .ok (.if_icmp .le 10, 3) := by decide +kernel
theorem dX3_grid_28 : decode cX3_grid 28 = .ok (.aload_n 0, 1) := by decide +kernel
theorem dX3_grid_29 : decode cX3_grid 29 = .ok (.bipush (-6), 2) := by decide +kernel
theorem dX3_grid_31 : decode cX3_grid 31 = .ok (.invokevirtual 57, 3) := by decide +kernel
theorem dX3_grid_34 : decode cX3_grid 34 = .ok (.ireturn, 1) := by decide +kernel
theorem dX3_grid_35 : decode cX3_grid 35 = .ok (.iload_n 3, 1) := by decide +kernel
theorem dX3_grid_36 : decode cX3_grid 36 = .ok (.invokestatic 85, 3) := by decide +kernel
theorem dX3_grid_39 : decode cX3_grid 39 = .ok (.ifCond .eq 9, 3) := by decide +kernel
theorem dX3_grid_42 : decode cX3_grid 42 = .ok (.aload_n 0, 1) := by decide +kernel
theorem dX3_grid_43 : decode cX3_grid 43 = .ok (.iconst (-1), 1) := by decide +kernel
theorem dX3_grid_44 : decode cX3_grid 44 = .ok (.invokevirtual 57, 3) := by decide +kernel
theorem dX3_grid_47 : decode cX3_grid 47 = .ok (.ireturn, 1) := by decide +kernel
theorem dX3_grid_48 : decode cX3_grid 48 = .ok (.iload 4, 2) := by decide +kernel
theorem dX3_grid_50 : decode cX3_grid 50 = .ok (.iconst 2, 1) := by decide +kernel
theorem dX3_grid_51 : decode cX3_grid 51 = .ok (.invokestatic 75, 3) := by decide +kernel
theorem dX3_grid_54 : decode cX3_grid 54 = .ok (.ifCond .eq 10, 3) := by decide +kernel
theorem dX3_grid_57 : decode cX3_grid 57 = .ok (.aload_n 0, 1) := by decide +kernel
theorem dX3_grid_58 : decode cX3_grid 58 = .ok (.bipush (-2), 2) := by decide +kernel
theorem dX3_grid_60 : decode cX3_grid 60 = .ok (.invokevirtual 57, 3) := by decide +kernel
theorem dX3_grid_63 : decode cX3_grid 63 = .ok (.ireturn, 1) := by decide +kernel
theorem dX3_grid_64 : decode cX3_grid 64 = .ok (.iload_n 1, 1) := by decide +kernel
theorem dX3_grid_65 : decode cX3_grid 65 = .ok (.iload_n 2, 1) := by decide +kernel
theorem dX3_grid_66 : decode cX3_grid 66 = .ok (.iload_n 3, 1) := by decide +kernel
theorem dX3_grid_67 : decode cX3_grid 67 = .ok (.invokestatic 176, 3) := by decide +kernel
theorem dX3_grid_70 : decode cX3_grid 70 = .ok (.istore 5, 2) := by decide +kernel
theorem dX3_grid_72 : decode cX3_grid 72 = .ok (.iload 4, 2) := by decide +kernel
theorem dX3_grid_74 : decode cX3_grid 74 = .ok (.ifCond .ne 6, 3) := by decide +kernel
theorem dX3_grid_77 : decode cX3_grid 77 = .ok (.iload 5, 2) := by decide +kernel
theorem dX3_grid_79 : decode cX3_grid 79 = .ok (.ireturn, 1) := by decide +kernel
theorem dX3_grid_80 : decode cX3_grid 80 = .ok (.iconst 0, 1) := by decide +kernel
theorem dX3_grid_81 : decode cX3_grid 81 = .ok (.istore 6, 2) := by decide +kernel
theorem dX3_grid_83 : decode cX3_grid 83 = .ok (.iconst 0, 1) := by decide +kernel
theorem dX3_grid_84 : decode cX3_grid 84 = .ok (.istore 7, 2) := by decide +kernel
theorem dX3_grid_86 : decode cX3_grid 86 = .ok (.iload 7, 2) := by decide +kernel
theorem dX3_grid_88 : decode cX3_grid 88 = .ok (.bipush 24, 2) := by decide +kernel
theorem dX3_grid_90 : decode cX3_grid 90 = .ok (.if_icmp .ge 24, 3) := by decide +kernel
theorem dX3_grid_93 : decode cX3_grid 93 = .ok (.iload_n 1, 1) := by decide +kernel
theorem dX3_grid_94 : decode cX3_grid 94 = .ok (.iload_n 2, 1) := by decide +kernel
theorem dX3_grid_95 : decode cX3_grid 95 = .ok (.iload 7, 2) := by decide +kernel
theorem dX3_grid_97 : decode cX3_grid 97 = .ok (.invokestatic 176, 3) := by decide +kernel
theorem dX3_grid_100 : decode cX3_grid 100 = .ok (.iload 5, 2) := by decide +kernel
theorem dX3_grid_102 : decode cX3_grid 102 = .ok (.if_icmp .ne 6, 3) := by decide +kernel
theorem dX3_grid_105 : decode cX3_grid 105 = .ok (.iinc 6 1, 3) := by decide +kernel
theorem dX3_grid_108 : decode cX3_grid 108 = .ok (.iinc 7 1, 3) := by decide +kernel
theorem dX3_grid_111 : decode cX3_grid 111 = .ok (.goto (-25), 3) := by decide +kernel
theorem dX3_grid_114 : decode cX3_grid 114 = .ok (.iload 6, 2) := by decide +kernel
theorem dX3_grid_116 : decode cX3_grid 116 = .ok (.ireturn, 1) := by decide +kernel
theorem dX3_taught_0 : decode cX3_taught 0 = .ok (.aload_n 0, 1) := by decide +kernel
theorem dX3_taught_1 : decode cX3_taught 1 = .ok (.getfield 10, 3) := by decide +kernel
theorem dX3_taught_4 : decode cX3_taught 4 = .ok (.getfield 82, 3) := by decide +kernel
theorem dX3_taught_7 : decode cX3_taught 7 = .ok (.bipush 24, 2) := by decide +kernel
theorem dX3_taught_9 : decode cX3_taught 9 = .ok (.if_icmp .ne 10, 3) := by decide +kernel
theorem dX3_taught_12 : decode cX3_taught 12 = .ok (.aload_n 0, 1) := by decide +kernel
theorem dX3_taught_13 : decode cX3_taught 13 = .ok (.bipush (-3), 2) := by decide +kernel
theorem dX3_taught_15 : decode cX3_taught 15 = .ok (.invokevirtual 57, 3) := by decide +kernel
theorem dX3_taught_18 : decode cX3_taught 18 = .ok (.ireturn, 1) := by decide +kernel
theorem dX3_taught_19 : decode cX3_taught 19 = .ok (.iconst 0, 1) := by decide +kernel
theorem dX3_taught_20 : decode cX3_taught 20 = .ok (.istore_n 1, 1) := by decide +kernel
theorem dX3_taught_21 : decode cX3_taught 21 = .ok (.iconst (-1), 1) := by decide +kernel
theorem dX3_taught_22 : decode cX3_taught 22 = .ok (.istore_n 2, 1) := by decide +kernel
theorem dX3_taught_23 : decode cX3_taught 23 = .ok (.iconst 0, 1) := by decide +kernel
theorem dX3_taught_24 : decode cX3_taught 24 = .ok (.istore_n 3, 1) := by decide +kernel
theorem dX3_taught_25 : decode cX3_taught 25 = .ok (.iload_n 3, 1) := by decide +kernel
theorem dX3_taught_26 : decode cX3_taught 26 = .ok (.iconst 1, 1) := by decide +kernel
theorem dX3_taught_27 : decode cX3_taught 27 = .ok (.if_icmp .gt 60, 3) := by decide +kernel
theorem dX3_taught_30 : decode cX3_taught 30 = .ok (.iconst 2, 1) := by decide +kernel
theorem dX3_taught_31 : decode cX3_taught 31 = .ok (.istore 4, 2) := by decide +kernel
theorem dX3_taught_33 : decode cX3_taught 33 = .ok (.iload 4, 2) := by decide +kernel
theorem dX3_taught_35 : decode cX3_taught 35 = .ok (.iconst 5, 1) := by decide +kernel
theorem dX3_taught_36 : decode cX3_taught 36 = .ok (.if_icmp .gt 45, 3) := by decide +kernel
theorem dX3_taught_39 : decode cX3_taught 39 = .ok (.aload_n 0, 1) := by decide +kernel
theorem dX3_taught_40 : decode cX3_taught 40 = .ok (.getfield 35, 3) := by decide +kernel
theorem dX3_taught_43 : decode cX3_taught 43 = .ok (.aload_n 0, 1) := by decide +kernel
theorem dX3_taught_44 : decode cX3_taught 44 = .ok (.getfield 10, 3) := by decide +kernel
theorem dX3_taught_47 : decode cX3_taught 47 = .ok (.getfield 82, 3) := by decide +kernel
theorem dX3_taught_50 : decode cX3_taught 50 = .ok (.iload_n 3, 1) := by decide +kernel
theorem dX3_taught_51 : decode cX3_taught 51 = .ok (.iload 4, 2) := by decide +kernel
theorem dX3_taught_53 : decode cX3_taught 53 = .ok (.invokevirtual 179, 3) := by decide +kernel
theorem dX3_taught_56 : decode cX3_taught 56 = .ok (.istore 5, 2) := by decide +kernel
theorem dX3_taught_58 : decode cX3_taught 58 = .ok (.iload 5, 2) := by decide +kernel
theorem dX3_taught_60 : decode cX3_taught 60 = .ok (.iload_n 2, 1) := by decide +kernel
theorem dX3_taught_61 : decode cX3_taught 61 = .ok (.if_icmp .le 14, 3) := by decide +kernel
theorem dX3_taught_64 : decode cX3_taught 64 = .ok (.iload 5, 2) := by decide +kernel
theorem dX3_taught_66 : decode cX3_taught 66 = .ok (.istore_n 2, 1) := by decide +kernel
theorem dX3_taught_67 : decode cX3_taught 67 = .ok (.bipush 10, 2) := by decide +kernel
theorem dX3_taught_69 : decode cX3_taught 69 = .ok (.iload_n 3, 1) := by decide +kernel
theorem dX3_taught_70 : decode cX3_taught 70 = .ok (.imul, 1) := by decide +kernel
theorem dX3_taught_71 : decode cX3_taught 71 = .ok (.iload 4, 2) := by decide +kernel
theorem dX3_taught_73 : decode cX3_taught 73 = .ok (.iadd, 1) := by decide +kernel
theorem dX3_taught_74 : decode cX3_taught 74 = .ok (.istore_n 1, 1) := by decide +kernel
theorem dX3_taught_75 : decode cX3_taught 75 = .ok (.iinc 4 1, 3) := by decide +kernel
theorem dX3_taught_78 : decode cX3_taught 78 = .ok (.goto (-45), 3) := by decide +kernel
theorem dX3_taught_81 : decode cX3_taught 81 = .ok (.iinc 3 1, 3) := by decide +kernel
theorem dX3_taught_84 : decode cX3_taught 84 = .ok (.goto (-59), 3) := by decide +kernel
theorem dX3_taught_87 : decode cX3_taught 87 = .ok (.iload_n 1, 1) := by decide +kernel
theorem dX3_taught_88 : decode cX3_taught 88 = .ok (.ireturn, 1) := by decide +kernel
theorem dX3_row_0 : decode cX3_row 0 = .ok (.iload_n 1, 1) := by decide +kernel
theorem dX3_row_1 : decode cX3_row 1 = .ok (.ifCond .ge 10, 3) := by decide +kernel
theorem dX3_row_4 : decode cX3_row 4 = .ok (.aload_n 0, 1) := by decide +kernel
theorem dX3_row_5 : decode cX3_row 5 = .ok (.bipush (-4), 2) := by decide +kernel
theorem dX3_row_7 : decode cX3_row 7 = .ok (.invokevirtual 57, 3) := by decide +kernel
theorem dX3_row_10 : decode cX3_row 10 = .ok (.ireturn, 1) := by decide +kernel
theorem dX3_row_11 : decode cX3_row 11 = .ok (.iload_n 1, 1) := by decide +kernel
theorem dX3_row_12 : decode cX3_row 12 = .ok (.bipush 24, 2) := by decide +kernel
theorem dX3_row_14 : decode cX3_row 14 = .ok (.if_icmp .gt 15, 3) := by decide +kernel
theorem dX3_row_17 : decode cX3_row 17 = .ok (.aload_n 0, 1) := by decide +kernel
theorem dX3_row_18 : decode cX3_row 18 = .ok (.getfield 49, 3) := by decide +kernel
theorem dX3_row_21 : decode cX3_row 21 = .ok (.bipush 20, 2) := by decide +kernel
theorem dX3_row_23 : decode cX3_row 23 = .ok (.invokestatic 75, 3) := by decide +kernel
theorem dX3_row_26 : decode cX3_row 26 = .ok (.ifCond .eq 10, 3) := by decide +kernel
theorem dX3_row_29 : decode cX3_row 29 = .ok (.aload_n 0, 1) := by decide +kernel
theorem dX3_row_30 : decode cX3_row 30 = .ok (.bipush (-6), 2) := by decide +kernel
theorem dX3_row_32 : decode cX3_row 32 = .ok (.invokevirtual 57, 3) := by decide +kernel
theorem dX3_row_35 : decode cX3_row 35 = .ok (.ireturn, 1) := by decide +kernel
theorem dX3_row_36 : decode cX3_row 36 = .ok (.aload_n 0, 1) := by decide +kernel
theorem dX3_row_37 : decode cX3_row 37 = .ok (.getfield 39, 3) := by decide +kernel
theorem dX3_row_40 : decode cX3_row 40 = .ok (.aload_n 0, 1) := by decide +kernel
theorem dX3_row_41 : decode cX3_row 41 = .ok (.getfield 49, 3) := by decide +kernel
theorem dX3_row_44 : decode cX3_row 44 = .ok (.iload_n 1, 1) := by decide +kernel
theorem dX3_row_45 : decode cX3_row 45 = .ok (.iastore, 1) := by decide +kernel
theorem dX3_row_46 : decode cX3_row 46 = .ok (.aload_n 0, 1) := by decide +kernel
theorem dX3_row_47 : decode cX3_row 47 = .ok (.dup, 1) := by decide +kernel
theorem dX3_row_48 : decode cX3_row 48 = .ok (.getfield 49, 3) := by decide +kernel
theorem dX3_row_51 : decode cX3_row 51 = .ok (.iconst 1, 1) := by decide +kernel
theorem dX3_row_52 : decode cX3_row 52 = .ok (.iadd, 1) := by decide +kernel
theorem dX3_row_53 : decode cX3_row 53 = .ok (.putfield 49, 3) := by decide +kernel
theorem dX3_row_56 : decode cX3_row 56 = .ok (.aload_n 0, 1) := by decide +kernel
theorem dX3_row_57 : decode cX3_row 57 = .ok (.getfield 49, 3) := by decide +kernel
theorem dX3_row_60 : decode cX3_row 60 = .ok (.ireturn, 1) := by decide +kernel
theorem dX3_kinds_0 : decode cX3_kinds 0 = .ok (.iconst 0, 1) := by decide +kernel
theorem dX3_kinds_1 : decode cX3_kinds 1 = .ok (.istore_n 1, 1) := by decide +kernel
theorem dX3_kinds_2 : decode cX3_kinds 2 = .ok (.iconst 0, 1) := by decide +kernel
theorem dX3_kinds_3 : decode cX3_kinds 3 = .ok (.istore_n 2, 1) := by decide +kernel
theorem dX3_kinds_4 : decode cX3_kinds 4 = .ok (.iload_n 2, 1) := by decide +kernel
theorem dX3_kinds_5 : decode cX3_kinds 5 = .ok (.bipush 6, 2) := by decide +kernel
theorem dX3_kinds_7 : decode cX3_kinds 7 = .ok (.if_icmp .ge 25, 3) := by decide +kernel
theorem dX3_kinds_10 : decode cX3_kinds 10 = .ok (.aload_n 0, 1) := by decide +kernel
theorem dX3_kinds_11 : decode cX3_kinds 11 = .ok (.iload_n 2, 1) := by decide +kernel
theorem dX3_kinds_12 : decode cX3_kinds 12 = .ok (.invokevirtual 182, 3) := by decide +kernel
theorem dX3_kinds_15 : decode cX3_kinds 15 = .ok (.bipush (-9), 2) := by decide +kernel
theorem dX3_kinds_17 : decode cX3_kinds 17 = .ok (.if_icmp .ne 9, 3) := by decide +kernel
theorem dX3_kinds_20 : decode cX3_kinds 20 = .ok (.iload_n 1, 1) := by decide +kernel
theorem dX3_kinds_21 : decode cX3_kinds 21 = .ok (.iconst 1, 1) := by decide +kernel
theorem dX3_kinds_22 : decode cX3_kinds 22 = .ok (.iload_n 2, 1) := by decide +kernel
theorem dX3_kinds_23 : decode cX3_kinds 23 = .ok (.ishl, 1) := by decide +kernel
theorem dX3_kinds_24 : decode cX3_kinds 24 = .ok (.ior, 1) := by decide +kernel
theorem dX3_kinds_25 : decode cX3_kinds 25 = .ok (.istore_n 1, 1) := by decide +kernel
theorem dX3_kinds_26 : decode cX3_kinds 26 = .ok (.iinc 2 1, 3) := by decide +kernel
theorem dX3_kinds_29 : decode cX3_kinds 29 = .ok (.goto (-25), 3) := by decide +kernel
theorem dX3_kinds_32 : decode cX3_kinds 32 = .ok (.iload_n 1, 1) := by decide +kernel
theorem dX3_kinds_33 : decode cX3_kinds 33 = .ok (.ireturn, 1) := by decide +kernel
theorem dX3_judge_0 : decode cX3_judge 0 = .ok (.aload_n 0, 1) := by decide +kernel
theorem dX3_judge_1 : decode cX3_judge 1 = .ok (.aload_n 0, 1) := by decide +kernel
theorem dX3_judge_2 : decode cX3_judge 2 = .ok (.getfield 10, 3) := by decide +kernel
theorem dX3_judge_5 : decode cX3_judge 5 = .ok (.getfield 79, 3) := by decide +kernel
theorem dX3_judge_8 : decode cX3_judge 8 = .ok (.invokevirtual 182, 3) := by decide +kernel
theorem dX3_judge_11 : decode cX3_judge 11 = .ok (.istore_n 1, 1) := by decide +kernel
theorem dX3_judge_12 : decode cX3_judge 12 = .ok (.aload_n 0, 1) := by decide +kernel
theorem dX3_judge_13 : decode cX3_judge 13 = .ok (.iconst 0, 1) := by decide +kernel
theorem dX3_judge_14 : decode cX3_judge 14 = .ok (.putfield 49, 3) := by decide +kernel
theorem dX3_judge_17 : decode cX3_judge 17 = .ok (.iload_n 1, 1) := by decide +kernel
theorem dX3_judge_18 : decode cX3_judge 18 = .ok (.ireturn, 1) := by decide +kernel
theorem dX3_evenings_0 : decode cX3_evenings 0 = .ok (.iload_n 1, 1) := by decide +kernel
theorem dX3_evenings_1 : decode cX3_evenings 1 = .ok (.bipush 6, 2) := by decide +kernel
theorem dX3_evenings_3 : decode cX3_evenings 3 = .ok (.invokestatic 75, 3) := by decide +kernel
theorem dX3_evenings_6 : decode cX3_evenings 6 = .ok (.ifCond .eq 10, 3) := by decide +kernel
theorem dX3_evenings_9 : decode cX3_evenings 9 = .ok (.aload_n 0, 1) := by decide +kernel
theorem dX3_evenings_10 : decode cX3_evenings 10 = .ok (.bipush (-2), 2) := by decide +kernel
theorem dX3_evenings_12 : decode cX3_evenings 12 = .ok (.invokevirtual 57, 3) := by decide +kernel
theorem dX3_evenings_15 : decode cX3_evenings 15 = .ok (.ireturn, 1) := by decide +kernel
theorem dX3_evenings_16 : decode cX3_evenings 16 = .ok (.iload_n 2, 1) := by decide +kernel
theorem dX3_evenings_17 : decode cX3_evenings 17 = .ok (.iconst 1, 1) := by decide +kernel
theorem dX3_evenings_18 : decode cX3_evenings 18 = .ok (.if_icmp .ge 10, 3) := by decide +kernel
theorem dX3_evenings_21 : decode cX3_evenings 21 = .ok (.aload_n 0, 1) := by decide +kernel
theorem dX3_evenings_22 : decode cX3_evenings 22 = .ok (.bipush (-4), 2) := by decide +kernel
theorem dX3_evenings_24 : decode cX3_evenings 24 = .ok (.invokevirtual 57, 3) := by decide +kernel
theorem dX3_evenings_27 : decode cX3_evenings 27 = .ok (.ireturn, 1) := by decide +kernel
theorem dX3_evenings_28 : decode cX3_evenings 28 = .ok (.iload_n 2, 1) := by decide +kernel
theorem dX3_evenings_29 : decode cX3_evenings 29 = .ok (.bipush 20, 2) := by decide +kernel
theorem dX3_evenings_31 : decode cX3_evenings 31 = .ok (.if_icmp .le 10, 3) := by decide +kernel
theorem dX3_evenings_34 : decode cX3_evenings 34 = .ok (.aload_n 0, 1) := by decide +kernel
theorem dX3_evenings_35 : decode cX3_evenings 35 = .ok (.bipush (-6), 2) := by decide +kernel
theorem dX3_evenings_37 : decode cX3_evenings 37 = .ok (.invokevirtual 57, 3) := by decide +kernel
theorem dX3_evenings_40 : decode cX3_evenings 40 = .ok (.ireturn, 1) := by decide +kernel
theorem dX3_evenings_41 : decode cX3_evenings 41 = .ok (.iload_n 3, 1) := by decide +kernel
theorem dX3_evenings_42 : decode cX3_evenings 42 = .ok (.istore 4, 2) := by decide +kernel
theorem dX3_evenings_44 : decode cX3_evenings 44 = .ok (.iconst 0, 1) := by decide +kernel
theorem dX3_evenings_45 : decode cX3_evenings 45 = .ok (.istore 5, 2) := by decide +kernel
theorem dX3_evenings_47 : decode cX3_evenings 47 = .ok (.iconst 0, 1) := by decide +kernel
theorem dX3_evenings_48 : decode cX3_evenings 48 = .ok (.istore 6, 2) := by decide +kernel
theorem dX3_evenings_50 : decode cX3_evenings 50 = .ok (.iload 6, 2) := by decide +kernel
theorem dX3_evenings_52 : decode cX3_evenings 52 = .ok (.iload_n 2, 1) := by decide +kernel
theorem dX3_evenings_53 : decode cX3_evenings 53 = .ok (.if_icmp .ge 75, 3) := by decide +kernel
theorem dX3_evenings_56 : decode cX3_evenings 56 = .ok (.iload 4, 2) := by decide +kernel
theorem dX3_evenings_58 : decode cX3_evenings 58 = .ok (.ldc 185, 2) := by decide +kernel
theorem dX3_evenings_60 : decode cX3_evenings 60 = .ok (.imul, 1) := by decide +kernel
theorem dX3_evenings_61 : decode cX3_evenings 61 = .ok (.ldc 186, 2) := by decide +kernel
theorem dX3_evenings_63 : decode cX3_evenings 63 = .ok (.iadd, 1) := by decide +kernel
theorem dX3_evenings_64 : decode cX3_evenings 64 = .ok (.istore 4, 2) := by decide +kernel
theorem dX3_evenings_66 : decode cX3_evenings 66 = .ok (.aload_n 0, 1) := by decide +kernel
theorem dX3_evenings_67 : decode cX3_evenings 67 = .ok (.getfield 19, 3) := by decide +kernel
theorem dX3_evenings_70 : decode cX3_evenings 70 = .ok (.aload_n 0, 1) := by decide +kernel
theorem dX3_evenings_71 : decode cX3_evenings 71 = .ok (.getfield 10, 3) := by decide +kernel
theorem dX3_evenings_74 : decode cX3_evenings 74 = .ok (.invokevirtual 67, 3) := by decide +kernel
theorem dX3_evenings_77 : decode cX3_evenings 77 = .ok (.aload_n 0, 1) := by decide +kernel
theorem dX3_evenings_78 : decode cX3_evenings 78 = .ok (.getfield 19, 3) := by decide +kernel
theorem dX3_evenings_81 : decode cX3_evenings 81 = .ok (.iconst 0, 1) := by decide +kernel
theorem dX3_evenings_82 : decode cX3_evenings 82 = .ok (.putfield 187, 3) := by decide +kernel
theorem dX3_evenings_85 : decode cX3_evenings 85 = .ok (.aload_n 0, 1) := by decide +kernel
theorem dX3_evenings_86 : decode cX3_evenings 86 = .ok (.getfield 19, 3) := by decide +kernel
theorem dX3_evenings_89 : decode cX3_evenings 89 = .ok (.iload 4, 2) := by decide +kernel
theorem dX3_evenings_91 : decode cX3_evenings 91 = .ok (.ldc 190, 2) := by decide +kernel
theorem dX3_evenings_93 : decode cX3_evenings 93 = .ok (.iand, 1) := by decide +kernel
theorem dX3_evenings_94 : decode cX3_evenings 94 = .ok (.sipush 256, 3) := by decide +kernel
theorem dX3_evenings_97 : decode cX3_evenings 97 = .ok (.idiv, 1) := by decide +kernel
theorem dX3_evenings_98 : decode cX3_evenings 98 = .ok (.bipush 24, 2) := by decide +kernel
theorem dX3_evenings_100 : decode cX3_evenings 100 = .ok (.irem, 1) := by decide +kernel
theorem dX3_evenings_101 : decode cX3_evenings 101 = .ok (.putfield 82, 3) := by decide +kernel
theorem dX3_evenings_104 : decode cX3_evenings 104 = .ok (.iload 5, 2) := by decide +kernel
theorem dX3_evenings_106 : decode cX3_evenings 106 = .ok (.bipush 40, 2) := by decide +kernel
theorem dX3_evenings_108 : decode cX3_evenings 108 = .ok (.aload_n 0, 1) := by decide +kernel
theorem dX3_evenings_109 : decode cX3_evenings 109 = .ok (.getfield 19, 3) := by decide +kernel
theorem dX3_evenings_112 : decode cX3_evenings 112 = .ok (.iload_n 1, 1) := by decide +kernel
theorem dX3_evenings_113 : decode cX3_evenings 113 = .ok (.invokevirtual 134, 3) := by decide +kernel
theorem dX3_evenings_116 : decode cX3_evenings 116 = .ok (.invokestatic 141, 3) := by decide +kernel
theorem dX3_evenings_119 : decode cX3_evenings 119 = .ok (.iadd, 1) := by decide +kernel
theorem dX3_evenings_120 : decode cX3_evenings 120 = .ok (.istore 5, 2) := by decide +kernel
theorem dX3_evenings_122 : decode cX3_evenings 122 = .ok (.iinc 6 1, 3) := by decide +kernel
theorem dX3_evenings_125 : decode cX3_evenings 125 = .ok (.goto (-75), 3) := by decide +kernel
theorem dX3_evenings_128 : decode cX3_evenings 128 = .ok (.iload 5, 2) := by decide +kernel
theorem dX3_evenings_130 : decode cX3_evenings 130 = .ok (.ireturn, 1) := by decide +kernel
theorem dX3_image_0 : decode cX3_image 0 = .ok (.aload_n 0, 1) := by decide +kernel
theorem dX3_image_1 : decode cX3_image 1 = .ok (.getfield 16, 3) := by decide +kernel
theorem dX3_image_4 : decode cX3_image 4 = .ok (.aload_n 0, 1) := by decide +kernel
theorem dX3_image_5 : decode cX3_image 5 = .ok (.getfield 10, 3) := by decide +kernel
theorem dX3_image_8 : decode cX3_image 8 = .ok (.invokevirtual 67, 3) := by decide +kernel
theorem dX3_image_11 : decode cX3_image 11 = .ok (.aload_n 0, 1) := by decide +kernel
theorem dX3_image_12 : decode cX3_image 12 = .ok (.iconst 1, 1) := by decide +kernel
theorem dX3_image_13 : decode cX3_image 13 = .ok (.putfield 53, 3) := by decide +kernel
theorem dX3_image_16 : decode cX3_image 16 = .ok (.aload_n 0, 1) := by decide +kernel
theorem dX3_image_17 : decode cX3_image 17 = .ok (.getfield 10, 3) := by decide +kernel
theorem dX3_image_20 : decode cX3_image 20 = .ok (.getfield 106, 3) := by decide +kernel
theorem dX3_image_23 : decode cX3_image 23 = .ok (.ireturn, 1) := by decide +kernel
theorem dX3_on_0 : decode cX3_on 0 = .ok (.aload_n 0, 1) := by decide +kernel
theorem dX3_on_1 : decode cX3_on 1 = .ok (.getfield 53, 3) := by decide +kernel
theorem dX3_on_4 : decode cX3_on 4 = .ok (.ifCond .ne 10, 3) := by decide +kernel
theorem dX3_on_7 : decode cX3_on 7 = .ok (.aload_n 0, 1) := by decide +kernel
theorem dX3_on_8 : decode cX3_on 8 = .ok (.bipush (-3), 2) := by decide +kernel
theorem dX3_on_10 : decode cX3_on 10 = .ok (.invokevirtual 57, 3) := by decide +kernel
theorem dX3_on_13 : decode cX3_on 13 = .ok (.ireturn, 1) := by decide +kernel
theorem dX3_on_14 : decode cX3_on 14 = .ok (.aload_n 0, 1) := by decide +kernel
theorem dX3_on_15 : decode cX3_on 15 = .ok (.getfield 10, 3) := by decide +kernel
theorem dX3_on_18 : decode cX3_on 18 = .ok (.aload_n 0, 1) := by decide +kernel
theorem dX3_on_19 : decode cX3_on 19 = .ok (.getfield 16, 3) := by decide +kernel
theorem dX3_on_22 : decode cX3_on 22 = .ok (.invokevirtual 67, 3) := by decide +kernel
theorem dX3_on_25 : decode cX3_on 25 = .ok (.aload_n 0, 1) := by decide +kernel
theorem dX3_on_26 : decode cX3_on 26 = .ok (.getfield 10, 3) := by decide +kernel
theorem dX3_on_29 : decode cX3_on 29 = .ok (.getfield 106, 3) := by decide +kernel
theorem dX3_on_32 : decode cX3_on 32 = .ok (.ireturn, 1) := by decide +kernel
theorem dX3_count_0 : decode cX3_count 0 = .ok (.iload_n 1, 1) := by decide +kernel
theorem dX3_count_1 : decode cX3_count 1 = .ok (.tableswitch 132 0 9 #[55, 63, 71, 79, 87, 95, 103, 111, 119, 124], 55) := by decide +kernel
theorem dX3_count_56 : decode cX3_count 56 = .ok (.aload_n 0, 1) := by decide +kernel
theorem dX3_count_57 : decode cX3_count 57 = .ok (.getfield 10, 3) := by decide +kernel
theorem dX3_count_60 : decode cX3_count 60 = .ok (.getfield 106, 3) := by decide +kernel
theorem dX3_count_63 : decode cX3_count 63 = .ok (.ireturn, 1) := by decide +kernel
theorem dX3_count_64 : decode cX3_count 64 = .ok (.aload_n 0, 1) := by decide +kernel
theorem dX3_count_65 : decode cX3_count 65 = .ok (.getfield 10, 3) := by decide +kernel
theorem dX3_count_68 : decode cX3_count 68 = .ok (.getfield 187, 3) := by decide +kernel
theorem dX3_count_71 : decode cX3_count 71 = .ok (.ireturn, 1) := by decide +kernel
theorem dX3_count_72 : decode cX3_count 72 = .ok (.aload_n 0, 1) := by decide +kernel
theorem dX3_count_73 : decode cX3_count 73 = .ok (.getfield 10, 3) := by decide +kernel
theorem dX3_count_76 : decode cX3_count 76 = .ok (.invokevirtual 191, 3) := by decide +kernel
theorem dX3_count_79 : decode cX3_count 79 = .ok (.ireturn, 1) := by decide +kernel
theorem dX3_count_80 : decode cX3_count 80 = .ok (.aload_n 0, 1) := by decide +kernel
theorem dX3_count_81 : decode cX3_count 81 = .ok (.getfield 10, 3) := by decide +kernel
theorem dX3_count_84 : decode cX3_count 84 = .ok (.getfield 120, 3) := by decide +kernel
theorem dX3_count_87 : decode cX3_count 87 = .ok (.ireturn, 1) := by decide +kernel
theorem dX3_count_88 : decode cX3_count 88 = .ok (.aload_n 0, 1) := by decide +kernel
theorem dX3_count_89 : decode cX3_count 89 = .ok (.getfield 10, 3) := by decide +kernel
theorem dX3_count_92 : decode cX3_count 92 = .ok (.getfield 152, 3) := by decide +kernel
theorem dX3_count_95 : decode cX3_count 95 = .ok (.ireturn, 1) := by decide +kernel
theorem dX3_count_96 : decode cX3_count 96 = .ok (.aload_n 0, 1) := by decide +kernel
theorem dX3_count_97 : decode cX3_count 97 = .ok (.getfield 10, 3) := by decide +kernel
theorem dX3_count_100 : decode cX3_count 100 = .ok (.getfield 123, 3) := by decide +kernel
theorem dX3_count_103 : decode cX3_count 103 = .ok (.ireturn, 1) := by decide +kernel
theorem dX3_count_104 : decode cX3_count 104 = .ok (.aload_n 0, 1) := by decide +kernel
theorem dX3_count_105 : decode cX3_count 105 = .ok (.getfield 10, 3) := by decide +kernel
theorem dX3_count_108 : decode cX3_count 108 = .ok (.getfield 194, 3) := by decide +kernel
theorem dX3_count_111 : decode cX3_count 111 = .ok (.ireturn, 1) := by decide +kernel
theorem dX3_count_112 : decode cX3_count 112 = .ok (.aload_n 0, 1) := by decide +kernel
theorem dX3_count_113 : decode cX3_count 113 = .ok (.getfield 35, 3) := by decide +kernel
theorem dX3_count_116 : decode cX3_count 116 = .ok (.getfield 155, 3) := by decide +kernel
theorem dX3_count_119 : decode cX3_count 119 = .ok (.ireturn, 1) := by decide +kernel
theorem dX3_count_120 : decode cX3_count 120 = .ok (.aload_n 0, 1) := by decide +kernel
theorem dX3_count_121 : decode cX3_count 121 = .ok (.getfield 49, 3) := by decide +kernel
theorem dX3_count_124 : decode cX3_count 124 = .ok (.ireturn, 1) := by decide +kernel
theorem dX3_count_125 : decode cX3_count 125 = .ok (.aload_n 0, 1) := by decide +kernel
theorem dX3_count_126 : decode cX3_count 126 = .ok (.getfield 28, 3) := by decide +kernel
theorem dX3_count_129 : decode cX3_count 129 = .ok (.getfield 61, 3) := by decide +kernel
theorem dX3_count_132 : decode cX3_count 132 = .ok (.ireturn, 1) := by decide +kernel
theorem dX3_count_133 : decode cX3_count 133 = .ok (.iload_n 1, 1) := by decide +kernel
theorem dX3_count_134 : decode cX3_count 134 = .ok (.bipush 11, 2) := by decide +kernel
theorem dX3_count_136 : decode cX3_count 136 = .ok (.bipush 16, 2) := by decide +kernel
theorem dX3_count_138 : decode cX3_count 138 = .ok (.invokestatic 197, 3) := by decide +kernel
theorem dX3_count_141 : decode cX3_count 141 = .ok (.ifCond .eq 15, 3) := by decide +kernel
theorem dX3_count_144 : decode cX3_count 144 = .ok (.aload_n 0, 1) := by decide +kernel
theorem dX3_count_145 : decode cX3_count 145 = .ok (.getfield 46, 3) := by decide +kernel
theorem dX3_count_148 : decode cX3_count 148 = .ok (.iload_n 1, 1) := by decide +kernel
theorem dX3_count_149 : decode cX3_count 149 = .ok (.bipush 10, 2) := by decide +kernel
theorem dX3_count_151 : decode cX3_count 151 = .ok (.isub, 1) := by decide +kernel
theorem dX3_count_152 : decode cX3_count 152 = .ok (.iaload, 1) := by decide +kernel
theorem dX3_count_153 : decode cX3_count 153 = .ok (.goto 5, 3) := by decide +kernel
theorem dX3_count_156 : decode cX3_count 156 = .ok (.bipush (-9), 2) := by decide +kernel
theorem dX3_count_158 : decode cX3_count 158 = .ok (.ireturn, 1) := by decide +kernel
theorem dX3_refuse_0 : decode cX3_refuse 0 = .ok (.iload_n 1, 1) := by decide +kernel
theorem dX3_refuse_1 : decode cX3_refuse 1 = .ok (.ineg, 1) := by decide +kernel
theorem dX3_refuse_2 : decode cX3_refuse 2 = .ok (.istore_n 2, 1) := by decide +kernel
theorem dX3_refuse_3 : decode cX3_refuse 3 = .ok (.iload_n 2, 1) := by decide +kernel
theorem dX3_refuse_4 : decode cX3_refuse 4 = .ok (.iconst 1, 1) := by decide +kernel
theorem dX3_refuse_5 : decode cX3_refuse 5 = .ok (.if_icmp .lt 19, 3) := by decide +kernel
theorem dX3_refuse_8 : decode cX3_refuse 8 = .ok (.iload_n 2, 1) := by decide +kernel
theorem dX3_refuse_9 : decode cX3_refuse 9 = .ok (.bipush 6, 2) := by decide +kernel
theorem dX3_refuse_11 : decode cX3_refuse 11 = .ok (.if_icmp .gt 13, 3) := by decide +kernel
theorem dX3_refuse_14 : decode cX3_refuse 14 = .ok (.aload_n 0, 1) := by decide +kernel
theorem dX3_refuse_15 : decode cX3_refuse 15 = .ok (.getfield 46, 3) := by decide +kernel
theorem dX3_refuse_18 : decode cX3_refuse 18 = .ok (.iload_n 2, 1) := by decide +kernel
theorem dX3_refuse_19 : decode cX3_refuse 19 = .ok (.dup2, 1) := by decide +kernel
theorem dX3_refuse_20 : decode cX3_refuse 20 = .ok (.iaload, 1) := by decide +kernel
theorem dX3_refuse_21 : decode cX3_refuse 21 = .ok (.iconst 1, 1) := by decide +kernel
theorem dX3_refuse_22 : decode cX3_refuse 22 = .ok (.iadd, 1) := by decide +kernel
theorem dX3_refuse_23 : decode cX3_refuse 23 = .ok (.iastore, 1) := by decide +kernel
theorem dX3_refuse_24 : decode cX3_refuse 24 = .ok (.iload_n 1, 1) := by decide +kernel
theorem dX3_refuse_25 : decode cX3_refuse 25 = .ok (.ireturn, 1) := by decide +kernel
theorem dX3_refuseLong_0 : decode cX3_refuseLong 0 = .ok (.ldc2_w 201, 3) := by decide +kernel
theorem dX3_refuseLong_3 : decode cX3_refuseLong 3 = .ok (.aload_n 0, 1) := by decide +kernel
theorem dX3_refuseLong_4 : decode cX3_refuseLong 4 = .ok (.iload_n 1, 1) := by decide +kernel
theorem dX3_refuseLong_5 : decode cX3_refuseLong 5 = .ok (.invokevirtual 57, 3) := by decide +kernel
theorem dX3_refuseLong_8 : decode cX3_refuseLong 8 = .ok (.i2l, 1) := by decide +kernel
theorem dX3_refuseLong_9 : decode cX3_refuseLong 9 = .ok (.lsub, 1) := by decide +kernel
theorem dX3_refuseLong_10 : decode cX3_refuseLong 10 = .ok (.lreturn, 1) := by decide +kernel
theorem dX3_weightOf_0 : decode cX3_weightOf 0 = .ok (.aload_n 0, 1) := by decide +kernel
theorem dX3_weightOf_1 : decode cX3_weightOf 1 = .ok (.getfield 35, 3) := by decide +kernel
theorem dX3_weightOf_4 : decode cX3_weightOf 4 = .ok (.iload_n 1, 1) := by decide +kernel
theorem dX3_weightOf_5 : decode cX3_weightOf 5 = .ok (.aload_n 0, 1) := by decide +kernel
theorem dX3_weightOf_6 : decode cX3_weightOf 6 = .ok (.getfield 10, 3) := by decide +kernel
theorem dX3_weightOf_9 : decode cX3_weightOf 9 = .ok (.getfield 120, 3) := by decide +kernel
theorem dX3_weightOf_12 : decode cX3_weightOf 12 = .ok (.aload_n 0, 1) := by decide +kernel
theorem dX3_weightOf_13 : decode cX3_weightOf 13 = .ok (.getfield 10, 3) := by decide +kernel
theorem dX3_weightOf_16 : decode cX3_weightOf 16 = .ok (.getfield 123, 3) := by decide +kernel
theorem dX3_weightOf_19 : decode cX3_weightOf 19 = .ok (.invokevirtual 179, 3) := by decide +kernel
theorem dX3_weightOf_22 : decode cX3_weightOf 22 = .ok (.istore_n 2, 1) := by decide +kernel
theorem dX3_weightOf_23 : decode cX3_weightOf 23 = .ok (.lconst 1, 1) := by decide +kernel
theorem dX3_weightOf_24 : decode cX3_weightOf 24 = .ok (.lstore_n 3, 1) := by decide +kernel
theorem dX3_weightOf_25 : decode cX3_weightOf 25 = .ok (.iconst 0, 1) := by decide +kernel
theorem dX3_weightOf_26 : decode cX3_weightOf 26 = .ok (.istore 5, 2) := by decide +kernel
theorem dX3_weightOf_28 : decode cX3_weightOf 28 = .ok (.iload 5, 2) := by decide +kernel
theorem dX3_weightOf_30 : decode cX3_weightOf 30 = .ok (.iload_n 2, 1) := by decide +kernel
theorem dX3_weightOf_31 : decode cX3_weightOf 31 = .ok (.if_icmp .ge 15, 3) := by decide +kernel
theorem dX3_weightOf_34 : decode cX3_weightOf 34 = .ok (.lload_n 3, 1) := by decide +kernel
theorem dX3_weightOf_35 : decode cX3_weightOf 35 = .ok (.ldc2_w 203, 3) := by decide +kernel
theorem dX3_weightOf_38 : decode cX3_weightOf 38 = .ok (.lmul, 1) := by decide +kernel
theorem dX3_weightOf_39 : decode cX3_weightOf 39 = .ok (.lstore_n 3, 1) := by decide +kernel
theorem dX3_weightOf_40 : decode cX3_weightOf 40 = .ok (.iinc 5 1, 3) := by decide +kernel
theorem dX3_weightOf_43 : decode cX3_weightOf 43 = .ok (.goto (-15), 3) := by decide +kernel
theorem dX3_weightOf_46 : decode cX3_weightOf 46 = .ok (.lload_n 3, 1) := by decide +kernel
theorem dX3_weightOf_47 : decode cX3_weightOf 47 = .ok (.lreturn, 1) := by decide +kernel
theorem dX3_leftAtWorst_0 : decode cX3_leftAtWorst 0 = .ok (.iconst 0, 1) := by decide +kernel
theorem dX3_leftAtWorst_1 : decode cX3_leftAtWorst 1 = .ok (.istore_n 3, 1) := by decide +kernel
theorem dX3_leftAtWorst_2 : decode cX3_leftAtWorst 2 = .ok (.iload_n 3, 1) := by decide +kernel
theorem dX3_leftAtWorst_3 : decode cX3_leftAtWorst 3 = .ok (.bipush 9, 2) := by decide +kernel
theorem dX3_leftAtWorst_5 : decode cX3_leftAtWorst 5 = .ok (.if_icmp .ge 16, 3) := by decide +kernel
theorem dX3_leftAtWorst_8 : decode cX3_leftAtWorst 8 = .ok (.aload_n 0, 1) := by decide +kernel
theorem dX3_leftAtWorst_9 : decode cX3_leftAtWorst 9 = .ok (.getfield 43, 3) := by decide +kernel
theorem dX3_leftAtWorst_12 : decode cX3_leftAtWorst 12 = .ok (.iload_n 3, 1) := by decide +kernel
theorem dX3_leftAtWorst_13 : decode cX3_leftAtWorst 13 = .ok (.iconst 0, 1) := by decide +kernel
theorem dX3_leftAtWorst_14 : decode cX3_leftAtWorst 14 = .ok (.iastore, 1) := by decide +kernel
theorem dX3_leftAtWorst_15 : decode cX3_leftAtWorst 15 = .ok (.iinc 3 1, 3) := by decide +kernel
theorem dX3_leftAtWorst_18 : decode cX3_leftAtWorst 18 = .ok (.goto (-16), 3) := by decide +kernel
theorem dX3_leftAtWorst_21 : decode cX3_leftAtWorst 21 = .ok (.iconst 0, 1) := by decide +kernel
theorem dX3_leftAtWorst_22 : decode cX3_leftAtWorst 22 = .ok (.istore_n 3, 1) := by decide +kernel
theorem dX3_leftAtWorst_23 : decode cX3_leftAtWorst 23 = .ok (.iconst 0, 1) := by decide +kernel
theorem dX3_leftAtWorst_24 : decode cX3_leftAtWorst 24 = .ok (.istore 4, 2) := by decide +kernel
theorem dX3_leftAtWorst_26 : decode cX3_leftAtWorst 26 = .ok (.iload 4, 2) := by decide +kernel
theorem dX3_leftAtWorst_28 : decode cX3_leftAtWorst 28 = .ok (.bipush 24, 2) := by decide +kernel
theorem dX3_leftAtWorst_30 : decode cX3_leftAtWorst 30 = .ok (.if_icmp .ge 76, 3) := by decide +kernel
theorem dX3_leftAtWorst_33 : decode cX3_leftAtWorst 33 = .ok (.iload_n 1, 1) := by decide +kernel
theorem dX3_leftAtWorst_34 : decode cX3_leftAtWorst 34 = .ok (.iload 4, 2) := by decide +kernel
theorem dX3_leftAtWorst_36 : decode cX3_leftAtWorst 36 = .ok (.aload_n 0, 1) := by decide +kernel
theorem dX3_leftAtWorst_37 : decode cX3_leftAtWorst 37 = .ok (.getfield 10, 3) := by decide +kernel
theorem dX3_leftAtWorst_40 : decode cX3_leftAtWorst 40 = .ok (.getfield 120, 3) := by decide +kernel
theorem dX3_leftAtWorst_43 : decode cX3_leftAtWorst 43 = .ok (.aload_n 0, 1) := by decide +kernel
theorem dX3_leftAtWorst_44 : decode cX3_leftAtWorst 44 = .ok (.getfield 10, 3) := by decide +kernel
theorem dX3_leftAtWorst_47 : decode cX3_leftAtWorst 47 = .ok (.getfield 123, 3) := by decide +kernel
theorem dX3_leftAtWorst_50 : decode cX3_leftAtWorst 50 = .ok (.invokestatic 126, 3) := by decide +kernel
theorem dX3_leftAtWorst_53 : decode cX3_leftAtWorst 53 = .ok (.istore 5, 2) := by decide +kernel
theorem dX3_leftAtWorst_55 : decode cX3_leftAtWorst 55 = .ok (.iload_n 2, 1) := by decide +kernel
theorem dX3_leftAtWorst_56 : decode cX3_leftAtWorst 56 = .ok (.iload 4, 2) := by decide +kernel
theorem dX3_leftAtWorst_58 : decode cX3_leftAtWorst 58 = .ok (.ishr, 1) := by decide +kernel
theorem dX3_leftAtWorst_59 : decode cX3_leftAtWorst 59 = .ok (.iconst 1, 1) := by decide +kernel
theorem dX3_leftAtWorst_60 : decode cX3_leftAtWorst 60 = .ok (.iand, 1) := by decide +kernel
theorem dX3_leftAtWorst_61 : decode cX3_leftAtWorst 61 = .ok (.iconst 1, 1) := by decide +kernel
theorem dX3_leftAtWorst_62 : decode cX3_leftAtWorst 62 = .ok (.if_icmp .ne 38, 3) := by decide +kernel
theorem dX3_leftAtWorst_65 : decode cX3_leftAtWorst 65 = .ok (.iload 5, 2) := by decide +kernel
theorem dX3_leftAtWorst_67 : decode cX3_leftAtWorst 67 = .ok (.ifCond .lt 33, 3) := by decide +kernel
theorem dX3_leftAtWorst_70 : decode cX3_leftAtWorst 70 = .ok (.iload 5, 2) := by decide +kernel
theorem dX3_leftAtWorst_72 : decode cX3_leftAtWorst 72 = .ok (.bipush 9, 2) := by decide +kernel
theorem dX3_leftAtWorst_74 : decode cX3_leftAtWorst 74 = .ok (.if_icmp .ge 26, 3) := by decide +kernel
theorem dX3_leftAtWorst_77 : decode cX3_leftAtWorst 77 = .ok (.aload_n 0, 1) := by decide +kernel
theorem dX3_leftAtWorst_78 : decode cX3_leftAtWorst 78 = .ok (.getfield 43, 3) := by decide +kernel
theorem dX3_leftAtWorst_81 : decode cX3_leftAtWorst 81 = .ok (.iload 5, 2) := by decide +kernel
theorem dX3_leftAtWorst_83 : decode cX3_leftAtWorst 83 = .ok (.dup2, 1) := by decide +kernel
theorem dX3_leftAtWorst_84 : decode cX3_leftAtWorst 84 = .ok (.iaload, 1) := by decide +kernel
theorem dX3_leftAtWorst_85 : decode cX3_leftAtWorst 85 = .ok (.iconst 1, 1) := by decide +kernel
theorem dX3_leftAtWorst_86 : decode cX3_leftAtWorst 86 = .ok (.iadd, 1) := by decide +kernel
theorem dX3_leftAtWorst_87 : decode cX3_leftAtWorst 87 = .ok (.iastore, 1) := by decide +kernel
theorem dX3_leftAtWorst_88 : decode cX3_leftAtWorst 88 = .ok (.iload_n 3, 1) := by decide +kernel
theorem dX3_leftAtWorst_89 : decode cX3_leftAtWorst 89 = .ok (.aload_n 0, 1) := by decide +kernel
theorem dX3_leftAtWorst_90 : decode cX3_leftAtWorst 90 = .ok (.getfield 43, 3) := by decide +kernel
theorem dX3_leftAtWorst_93 : decode cX3_leftAtWorst 93 = .ok (.iload 5, 2) := by decide +kernel
theorem dX3_leftAtWorst_95 : decode cX3_leftAtWorst 95 = .ok (.iaload, 1) := by decide +kernel
theorem dX3_leftAtWorst_96 : decode cX3_leftAtWorst 96 = .ok (.invokestatic 205, 3) := by decide +kernel
theorem dX3_leftAtWorst_99 : decode cX3_leftAtWorst 99 = .ok (.istore_n 3, 1) := by decide +kernel
theorem dX3_leftAtWorst_100 : decode cX3_leftAtWorst 100 = .ok (.iinc 4 1, 3) := by decide +kernel
theorem dX3_leftAtWorst_103 : decode cX3_leftAtWorst 103 = .ok (.goto (-77), 3) := by decide +kernel
theorem dX3_leftAtWorst_106 : decode cX3_leftAtWorst 106 = .ok (.iload_n 3, 1) := by decide +kernel
theorem dX3_leftAtWorst_107 : decode cX3_leftAtWorst 107 = .ok (.ireturn, 1) := by decide +kernel
theorem dX3_strokesOfStrip_0 : decode cX3_strokesOfStrip 0 = .ok (.iload_n 1, 1) := by decide +kernel
theorem dX3_strokesOfStrip_1 : decode cX3_strokesOfStrip 1 = .ok (.iconst 4, 1) := by decide +kernel
theorem dX3_strokesOfStrip_2 : decode cX3_strokesOfStrip 2 = .ok (.if_icmp .ge 7, 3) := by decide +kernel
theorem dX3_strokesOfStrip_5 : decode cX3_strokesOfStrip 5 = .ok (.iconst 1, 1) := by decide +kernel
theorem dX3_strokesOfStrip_6 : decode cX3_strokesOfStrip 6 = .ok (.goto 4, 3) := by decide +kernel
theorem dX3_strokesOfStrip_9 : decode cX3_strokesOfStrip 9 = .ok (.iconst 0, 1) := by decide +kernel
theorem dX3_strokesOfStrip_10 : decode cX3_strokesOfStrip 10 = .ok (.istore_n 2, 1) := by decide +kernel
theorem dX3_strokesOfStrip_11 : decode cX3_strokesOfStrip 11 = .ok (.iload_n 2, 1) := by decide +kernel
theorem dX3_strokesOfStrip_12 : decode cX3_strokesOfStrip 12 = .ok (.ifCond .eq 10, 3) := by decide +kernel
theorem dX3_strokesOfStrip_15 : decode cX3_strokesOfStrip 15 = .ok (.bipush 6, 2) := by decide +kernel
theorem dX3_strokesOfStrip_17 : decode cX3_strokesOfStrip 17 = .ok (.iload_n 1, 1) := by decide +kernel
theorem dX3_strokesOfStrip_18 : decode cX3_strokesOfStrip 18 = .ok (.imul, 1) := by decide +kernel
theorem dX3_strokesOfStrip_19 : decode cX3_strokesOfStrip 19 = .ok (.goto 6, 3) := by decide +kernel
theorem dX3_strokesOfStrip_22 : decode cX3_strokesOfStrip 22 = .ok (.iload_n 1, 1) := by decide +kernel
theorem dX3_strokesOfStrip_23 : decode cX3_strokesOfStrip 23 = .ok (.iconst 4, 1) := by decide +kernel
theorem dX3_strokesOfStrip_24 : decode cX3_strokesOfStrip 24 = .ok (.isub, 1) := by decide +kernel
theorem dX3_strokesOfStrip_25 : decode cX3_strokesOfStrip 25 = .ok (.istore_n 3, 1) := by decide +kernel
theorem dX3_strokesOfStrip_26 : decode cX3_strokesOfStrip 26 = .ok (.iload_n 2, 1) := by decide +kernel
theorem dX3_strokesOfStrip_27 : decode cX3_strokesOfStrip 27 = .ok (.ifCond .eq 8, 3) := by decide +kernel
theorem dX3_strokesOfStrip_30 : decode cX3_strokesOfStrip 30 = .ok (.bipush 6, 2) := by decide +kernel
theorem dX3_strokesOfStrip_32 : decode cX3_strokesOfStrip 32 = .ok (.goto 4, 3) := by decide +kernel
theorem dX3_strokesOfStrip_35 : decode cX3_strokesOfStrip 35 = .ok (.iconst 4, 1) := by decide +kernel
theorem dX3_strokesOfStrip_36 : decode cX3_strokesOfStrip 36 = .ok (.istore 4, 2) := by decide +kernel
theorem dX3_strokesOfStrip_38 : decode cX3_strokesOfStrip 38 = .ok (.iload_n 2, 1) := by decide +kernel
theorem dX3_strokesOfStrip_39 : decode cX3_strokesOfStrip 39 = .ok (.ifCond .eq 7, 3) := by decide +kernel
theorem dX3_strokesOfStrip_42 : decode cX3_strokesOfStrip 42 = .ok (.iconst 1, 1) := by decide +kernel
theorem dX3_strokesOfStrip_43 : decode cX3_strokesOfStrip 43 = .ok (.goto 5, 3) := by decide +kernel
theorem dX3_strokesOfStrip_46 : decode cX3_strokesOfStrip 46 = .ok (.bipush 6, 2) := by decide +kernel
theorem dX3_strokesOfStrip_48 : decode cX3_strokesOfStrip 48 = .ok (.istore 5, 2) := by decide +kernel
theorem dX3_strokesOfStrip_50 : decode cX3_strokesOfStrip 50 = .ok (.aload_n 0, 1) := by decide +kernel
theorem dX3_strokesOfStrip_51 : decode cX3_strokesOfStrip 51 = .ok (.getfield 19, 3) := by decide +kernel
theorem dX3_strokesOfStrip_54 : decode cX3_strokesOfStrip 54 = .ok (.aload_n 0, 1) := by decide +kernel
theorem dX3_strokesOfStrip_55 : decode cX3_strokesOfStrip 55 = .ok (.getfield 10, 3) := by decide +kernel
theorem dX3_strokesOfStrip_58 : decode cX3_strokesOfStrip 58 = .ok (.invokevirtual 67, 3) := by decide +kernel
theorem dX3_strokesOfStrip_61 : decode cX3_strokesOfStrip 61 = .ok (.iconst 0, 1) := by decide +kernel
theorem dX3_strokesOfStrip_62 : decode cX3_strokesOfStrip 62 = .ok (.istore 6, 2) := by decide +kernel
theorem dX3_strokesOfStrip_64 : decode cX3_strokesOfStrip 64 = .ok (.iload 6, 2) := by decide +kernel
theorem dX3_strokesOfStrip_66 : decode cX3_strokesOfStrip 66 = .ok (.iload 4, 2) := by decide +kernel
theorem dX3_strokesOfStrip_68 : decode cX3_strokesOfStrip 68 = .ok (.if_icmp .ge 38, 3) := by decide +kernel
theorem dX3_strokesOfStrip_71 : decode cX3_strokesOfStrip 71 = .ok (.aload_n 0, 1) := by decide +kernel
theorem dX3_strokesOfStrip_72 : decode cX3_strokesOfStrip 72 = .ok (.getfield 19, 3) := by decide +kernel
theorem dX3_strokesOfStrip_75 : decode cX3_strokesOfStrip 75 = .ok (.getfield 82, 3) := by decide +kernel
theorem dX3_strokesOfStrip_78 : decode cX3_strokesOfStrip 78 = .ok (.bipush 24, 2) := by decide +kernel
theorem dX3_strokesOfStrip_80 : decode cX3_strokesOfStrip 80 = .ok (.if_icmp .ne 6, 3) := by decide +kernel
theorem dX3_strokesOfStrip_83 : decode cX3_strokesOfStrip 83 = .ok (.iload 6, 2) := by decide +kernel
theorem dX3_strokesOfStrip_85 : decode cX3_strokesOfStrip 85 = .ok (.ireturn, 1) := by decide +kernel
theorem dX3_strokesOfStrip_86 : decode cX3_strokesOfStrip 86 = .ok (.aload_n 0, 1) := by decide +kernel
theorem dX3_strokesOfStrip_87 : decode cX3_strokesOfStrip 87 = .ok (.getfield 19, 3) := by decide +kernel
theorem dX3_strokesOfStrip_90 : decode cX3_strokesOfStrip 90 = .ok (.iload_n 3, 1) := by decide +kernel
theorem dX3_strokesOfStrip_91 : decode cX3_strokesOfStrip 91 = .ok (.iload 5, 2) := by decide +kernel
theorem dX3_strokesOfStrip_93 : decode cX3_strokesOfStrip 93 = .ok (.iload 6, 2) := by decide +kernel
theorem dX3_strokesOfStrip_95 : decode cX3_strokesOfStrip 95 = .ok (.imul, 1) := by decide +kernel
theorem dX3_strokesOfStrip_96 : decode cX3_strokesOfStrip 96 = .ok (.iadd, 1) := by decide +kernel
theorem dX3_strokesOfStrip_97 : decode cX3_strokesOfStrip 97 = .ok (.invokevirtual 109, 3) := by decide +kernel
theorem dX3_strokesOfStrip_100 : decode cX3_strokesOfStrip 100 = .ok (.iinc 6 1, 3) := by decide +kernel
theorem dX3_strokesOfStrip_103 : decode cX3_strokesOfStrip 103 = .ok (.goto (-39), 3) := by decide +kernel
theorem dX3_strokesOfStrip_106 : decode cX3_strokesOfStrip 106 = .ok (.aload_n 0, 1) := by decide +kernel
theorem dX3_strokesOfStrip_107 : decode cX3_strokesOfStrip 107 = .ok (.getfield 19, 3) := by decide +kernel
theorem dX3_strokesOfStrip_110 : decode cX3_strokesOfStrip 110 = .ok (.getfield 82, 3) := by decide +kernel
theorem dX3_strokesOfStrip_113 : decode cX3_strokesOfStrip 113 = .ok (.bipush 24, 2) := by decide +kernel
theorem dX3_strokesOfStrip_115 : decode cX3_strokesOfStrip 115 = .ok (.if_icmp .ne 8, 3) := by decide +kernel
theorem dX3_strokesOfStrip_118 : decode cX3_strokesOfStrip 118 = .ok (.iload 4, 2) := by decide +kernel
theorem dX3_strokesOfStrip_120 : decode cX3_strokesOfStrip 120 = .ok (.goto 5, 3) := by decide +kernel
theorem dX3_strokesOfStrip_123 : decode cX3_strokesOfStrip 123 = .ok (.bipush (-9), 2) := by decide +kernel
theorem dX3_strokesOfStrip_125 : decode cX3_strokesOfStrip 125 = .ok (.ireturn, 1) := by decide +kernel
theorem dX3_firstOf_0 : decode cX3_firstOf 0 = .ok (.iconst 0, 1) := by decide +kernel
theorem dX3_firstOf_1 : decode cX3_firstOf 1 = .ok (.istore_n 2, 1) := by decide +kernel
theorem dX3_firstOf_2 : decode cX3_firstOf 2 = .ok (.iload_n 2, 1) := by decide +kernel
theorem dX3_firstOf_3 : decode cX3_firstOf 3 = .ok (.bipush 24, 2) := by decide +kernel
theorem dX3_firstOf_5 : decode cX3_firstOf 5 = .ok (.if_icmp .ge 40, 3) := by decide +kernel
theorem dX3_firstOf_8 : decode cX3_firstOf 8 = .ok (.aload_n 0, 1) := by decide +kernel
theorem dX3_firstOf_9 : decode cX3_firstOf 9 = .ok (.getfield 19, 3) := by decide +kernel
theorem dX3_firstOf_12 : decode cX3_firstOf 12 = .ok (.aload_n 0, 1) := by decide +kernel
theorem dX3_firstOf_13 : decode cX3_firstOf 13 = .ok (.getfield 10, 3) := by decide +kernel
theorem dX3_firstOf_16 : decode cX3_firstOf 16 = .ok (.invokevirtual 67, 3) := by decide +kernel
theorem dX3_firstOf_19 : decode cX3_firstOf 19 = .ok (.aload_n 0, 1) := by decide +kernel
theorem dX3_firstOf_20 : decode cX3_firstOf 20 = .ok (.getfield 19, 3) := by decide +kernel
theorem dX3_firstOf_23 : decode cX3_firstOf 23 = .ok (.iload_n 2, 1) := by decide +kernel
theorem dX3_firstOf_24 : decode cX3_firstOf 24 = .ok (.invokevirtual 109, 3) := by decide +kernel
theorem dX3_firstOf_27 : decode cX3_firstOf 27 = .ok (.aload_n 0, 1) := by decide +kernel
theorem dX3_firstOf_28 : decode cX3_firstOf 28 = .ok (.iload_n 1, 1) := by decide +kernel
theorem dX3_firstOf_29 : decode cX3_firstOf 29 = .ok (.iconst 1, 1) := by decide +kernel
theorem dX3_firstOf_30 : decode cX3_firstOf 30 = .ok (.isub, 1) := by decide +kernel
theorem dX3_firstOf_31 : decode cX3_firstOf 31 = .ok (.invokevirtual 208, 3) := by decide +kernel
theorem dX3_firstOf_34 : decode cX3_firstOf 34 = .ok (.ifCond .eq 5, 3) := by decide +kernel
theorem dX3_firstOf_37 : decode cX3_firstOf 37 = .ok (.iload_n 2, 1) := by decide +kernel
theorem dX3_firstOf_38 : decode cX3_firstOf 38 = .ok (.ireturn, 1) := by decide +kernel
theorem dX3_firstOf_39 : decode cX3_firstOf 39 = .ok (.iinc 2 1, 3) := by decide +kernel
theorem dX3_firstOf_42 : decode cX3_firstOf 42 = .ok (.goto (-40), 3) := by decide +kernel
theorem dX3_firstOf_45 : decode cX3_firstOf 45 = .ok (.bipush (-9), 2) := by decide +kernel
theorem dX3_firstOf_47 : decode cX3_firstOf 47 = .ok (.ireturn, 1) := by decide +kernel
theorem dX3_canBeGone_0 : decode cX3_canBeGone 0 = .ok (.iload_n 1, 1) := by decide +kernel
theorem dX3_canBeGone_1 : decode cX3_canBeGone 1 = .ok (.ifCond .gt 21, 3) := by decide +kernel
theorem dX3_canBeGone_4 : decode cX3_canBeGone 4 = .ok (.aload_n 0, 1) := by decide +kernel
theorem dX3_canBeGone_5 : decode cX3_canBeGone 5 = .ok (.getfield 19, 3) := by decide +kernel
theorem dX3_canBeGone_8 : decode cX3_canBeGone 8 = .ok (.getfield 82, 3) := by decide +kernel
theorem dX3_canBeGone_11 : decode cX3_canBeGone 11 = .ok (.bipush 24, 2) := by decide +kernel
theorem dX3_canBeGone_13 : decode cX3_canBeGone 13 = .ok (.if_icmp .ne 7, 3) := by decide +kernel
theorem dX3_canBeGone_16 : decode cX3_canBeGone 16 = .ok (.iconst 1, 1) := by decide +kernel
theorem dX3_canBeGone_17 : decode cX3_canBeGone 17 = .ok (.goto 4, 3) := by decide +kernel
theorem dX3_canBeGone_20 : decode cX3_canBeGone 20 = .ok (.iconst 0, 1) := by decide +kernel
theorem dX3_canBeGone_21 : decode cX3_canBeGone 21 = .ok (.ireturn, 1) := by decide +kernel
theorem dX3_canBeGone_22 : decode cX3_canBeGone 22 = .ok (.iload_n 1, 1) := by decide +kernel
theorem dX3_canBeGone_23 : decode cX3_canBeGone 23 = .ok (.iconst 1, 1) := by decide +kernel
theorem dX3_canBeGone_24 : decode cX3_canBeGone 24 = .ok (.if_icmp .ne 35, 3) := by decide +kernel
theorem dX3_canBeGone_27 : decode cX3_canBeGone 27 = .ok (.aload_n 0, 1) := by decide +kernel
theorem dX3_canBeGone_28 : decode cX3_canBeGone 28 = .ok (.getfield 19, 3) := by decide +kernel
theorem dX3_canBeGone_31 : decode cX3_canBeGone 31 = .ok (.aload_n 0, 1) := by decide +kernel
theorem dX3_canBeGone_32 : decode cX3_canBeGone 32 = .ok (.getfield 19, 3) := by decide +kernel
theorem dX3_canBeGone_35 : decode cX3_canBeGone 35 = .ok (.getfield 82, 3) := by decide +kernel
theorem dX3_canBeGone_38 : decode cX3_canBeGone 38 = .ok (.invokevirtual 109, 3) := by decide +kernel
theorem dX3_canBeGone_41 : decode cX3_canBeGone 41 = .ok (.aload_n 0, 1) := by decide +kernel
theorem dX3_canBeGone_42 : decode cX3_canBeGone 42 = .ok (.getfield 19, 3) := by decide +kernel
theorem dX3_canBeGone_45 : decode cX3_canBeGone 45 = .ok (.getfield 82, 3) := by decide +kernel
theorem dX3_canBeGone_48 : decode cX3_canBeGone 48 = .ok (.bipush 24, 2) := by decide +kernel
theorem dX3_canBeGone_50 : decode cX3_canBeGone 50 = .ok (.if_icmp .ne 7, 3) := by decide +kernel
theorem dX3_canBeGone_53 : decode cX3_canBeGone 53 = .ok (.iconst 1, 1) := by decide +kernel
theorem dX3_canBeGone_54 : decode cX3_canBeGone 54 = .ok (.goto 4, 3) := by decide +kernel
theorem dX3_canBeGone_57 : decode cX3_canBeGone 57 = .ok (.iconst 0, 1) := by decide +kernel
theorem dX3_canBeGone_58 : decode cX3_canBeGone 58 = .ok (.ireturn, 1) := by decide +kernel
theorem dX3_canBeGone_59 : decode cX3_canBeGone 59 = .ok (.iconst 0, 1) := by decide +kernel
theorem dX3_canBeGone_60 : decode cX3_canBeGone 60 = .ok (.istore_n 2, 1) := by decide +kernel
theorem dX3_canBeGone_61 : decode cX3_canBeGone 61 = .ok (.iload_n 2, 1) := by decide +kernel
theorem dX3_canBeGone_62 : decode cX3_canBeGone 62 = .ok (.bipush 24, 2) := by decide +kernel
theorem dX3_canBeGone_64 : decode cX3_canBeGone 64 = .ok (.if_icmp .ge 56, 3) := by decide +kernel
theorem dX3_canBeGone_67 : decode cX3_canBeGone 67 = .ok (.aload_n 0, 1) := by decide +kernel
theorem dX3_canBeGone_68 : decode cX3_canBeGone 68 = .ok (.getfield 22, 3) := by decide +kernel
theorem dX3_canBeGone_71 : decode cX3_canBeGone 71 = .ok (.aload_n 0, 1) := by decide +kernel
theorem dX3_canBeGone_72 : decode cX3_canBeGone 72 = .ok (.getfield 19, 3) := by decide +kernel
theorem dX3_canBeGone_75 : decode cX3_canBeGone 75 = .ok (.invokevirtual 67, 3) := by decide +kernel
theorem dX3_canBeGone_78 : decode cX3_canBeGone 78 = .ok (.aload_n 0, 1) := by decide +kernel
theorem dX3_canBeGone_79 : decode cX3_canBeGone 79 = .ok (.getfield 22, 3) := by decide +kernel
theorem dX3_canBeGone_82 : decode cX3_canBeGone 82 = .ok (.iload_n 2, 1) := by decide +kernel
theorem dX3_canBeGone_83 : decode cX3_canBeGone 83 = .ok (.invokevirtual 109, 3) := by decide +kernel
theorem dX3_canBeGone_86 : decode cX3_canBeGone 86 = .ok (.aload_n 0, 1) := by decide +kernel
theorem dX3_canBeGone_87 : decode cX3_canBeGone 87 = .ok (.getfield 22, 3) := by decide +kernel
theorem dX3_canBeGone_90 : decode cX3_canBeGone 90 = .ok (.aload_n 0, 1) := by decide +kernel
theorem dX3_canBeGone_91 : decode cX3_canBeGone 91 = .ok (.getfield 22, 3) := by decide +kernel
theorem dX3_canBeGone_94 : decode cX3_canBeGone 94 = .ok (.getfield 82, 3) := by decide +kernel
theorem dX3_canBeGone_97 : decode cX3_canBeGone 97 = .ok (.invokevirtual 109, 3) := by decide +kernel
theorem dX3_canBeGone_100 : decode cX3_canBeGone 100 = .ok (.aload_n 0, 1) := by decide +kernel
theorem dX3_canBeGone_101 : decode cX3_canBeGone 101 = .ok (.getfield 22, 3) := by decide +kernel
theorem dX3_canBeGone_104 : decode cX3_canBeGone 104 = .ok (.getfield 82, 3) := by decide +kernel
theorem dX3_canBeGone_107 : decode cX3_canBeGone 107 = .ok (.bipush 24, 2) := by decide +kernel
theorem dX3_canBeGone_109 : decode cX3_canBeGone 109 = .ok (.if_icmp .ne 5, 3) := by decide +kernel
theorem dX3_canBeGone_112 : decode cX3_canBeGone 112 = .ok (.iconst 1, 1) := by decide +kernel
theorem dX3_canBeGone_113 : decode cX3_canBeGone 113 = .ok (.ireturn, 1) := by decide +kernel
theorem dX3_canBeGone_114 : decode cX3_canBeGone 114 = .ok (.iinc 2 1, 3) := by decide +kernel
theorem dX3_canBeGone_117 : decode cX3_canBeGone 117 = .ok (.goto (-56), 3) := by decide +kernel
theorem dX3_canBeGone_120 : decode cX3_canBeGone 120 = .ok (.iconst 0, 1) := by decide +kernel
theorem dX3_canBeGone_121 : decode cX3_canBeGone 121 = .ok (.ireturn, 1) := by decide +kernel
theorem dX3_firstUntrue_0 : decode cX3_firstUntrue 0 = .ok (.aload_n 0, 1) := by decide +kernel
theorem dX3_firstUntrue_1 : decode cX3_firstUntrue 1 = .ok (.getfield 19, 3) := by decide +kernel
theorem dX3_firstUntrue_4 : decode cX3_firstUntrue 4 = .ok (.aload_n 0, 1) := by decide +kernel
theorem dX3_firstUntrue_5 : decode cX3_firstUntrue 5 = .ok (.getfield 10, 3) := by decide +kernel
theorem dX3_firstUntrue_8 : decode cX3_firstUntrue 8 = .ok (.invokevirtual 67, 3) := by decide +kernel
theorem dX3_firstUntrue_11 : decode cX3_firstUntrue 11 = .ok (.aload_n 0, 1) := by decide +kernel
theorem dX3_firstUntrue_12 : decode cX3_firstUntrue 12 = .ok (.getfield 19, 3) := by decide +kernel
theorem dX3_firstUntrue_15 : decode cX3_firstUntrue 15 = .ok (.iload_n 1, 1) := by decide +kernel
theorem dX3_firstUntrue_16 : decode cX3_firstUntrue 16 = .ok (.putfield 79, 3) := by decide +kernel
theorem dX3_firstUntrue_19 : decode cX3_firstUntrue 19 = .ok (.iconst 0, 1) := by decide +kernel
theorem dX3_firstUntrue_20 : decode cX3_firstUntrue 20 = .ok (.istore_n 2, 1) := by decide +kernel
theorem dX3_firstUntrue_21 : decode cX3_firstUntrue 21 = .ok (.iload_n 2, 1) := by decide +kernel
theorem dX3_firstUntrue_22 : decode cX3_firstUntrue 22 = .ok (.aload_n 0, 1) := by decide +kernel
theorem dX3_firstUntrue_23 : decode cX3_firstUntrue 23 = .ok (.getfield 49, 3) := by decide +kernel
theorem dX3_firstUntrue_26 : decode cX3_firstUntrue 26 = .ok (.if_icmp .ge 47, 3) := by decide +kernel
theorem dX3_firstUntrue_29 : decode cX3_firstUntrue 29 = .ok (.iload_n 2, 1) := by decide +kernel
theorem dX3_firstUntrue_30 : decode cX3_firstUntrue 30 = .ok (.bipush 20, 2) := by decide +kernel
theorem dX3_firstUntrue_32 : decode cX3_firstUntrue 32 = .ok (.if_icmp .ge 41, 3) := by decide +kernel
theorem dX3_firstUntrue_35 : decode cX3_firstUntrue 35 = .ok (.aload_n 0, 1) := by decide +kernel
theorem dX3_firstUntrue_36 : decode cX3_firstUntrue 36 = .ok (.getfield 19, 3) := by decide +kernel
theorem dX3_firstUntrue_39 : decode cX3_firstUntrue 39 = .ok (.aload_n 0, 1) := by decide +kernel
theorem dX3_firstUntrue_40 : decode cX3_firstUntrue 40 = .ok (.getfield 19, 3) := by decide +kernel
theorem dX3_firstUntrue_43 : decode cX3_firstUntrue 43 = .ok (.getfield 187, 3) := by decide +kernel
theorem dX3_firstUntrue_46 : decode cX3_firstUntrue 46 = .ok (.invokevirtual 109, 3) := by decide +kernel
theorem dX3_firstUntrue_49 : decode cX3_firstUntrue 49 = .ok (.aload_n 0, 1) := by decide +kernel
theorem dX3_firstUntrue_50 : decode cX3_firstUntrue 50 = .ok (.getfield 19, 3) := by decide +kernel
theorem dX3_firstUntrue_53 : decode cX3_firstUntrue 53 = .ok (.getfield 82, 3) := by decide +kernel
theorem dX3_firstUntrue_56 : decode cX3_firstUntrue 56 = .ok (.aload_n 0, 1) := by decide +kernel
theorem dX3_firstUntrue_57 : decode cX3_firstUntrue 57 = .ok (.getfield 39, 3) := by decide +kernel
theorem dX3_firstUntrue_60 : decode cX3_firstUntrue 60 = .ok (.iload_n 2, 1) := by decide +kernel
theorem dX3_firstUntrue_61 : decode cX3_firstUntrue 61 = .ok (.iaload, 1) := by decide +kernel
theorem dX3_firstUntrue_62 : decode cX3_firstUntrue 62 = .ok (.if_icmp .eq 5, 3) := by decide +kernel
theorem dX3_firstUntrue_65 : decode cX3_firstUntrue 65 = .ok (.iload_n 2, 1) := by decide +kernel
theorem dX3_firstUntrue_66 : decode cX3_firstUntrue 66 = .ok (.ireturn, 1) := by decide +kernel
theorem dX3_firstUntrue_67 : decode cX3_firstUntrue 67 = .ok (.iinc 2 1, 3) := by decide +kernel
theorem dX3_firstUntrue_70 : decode cX3_firstUntrue 70 = .ok (.goto (-49), 3) := by decide +kernel
theorem dX3_firstUntrue_73 : decode cX3_firstUntrue 73 = .ok (.bipush (-9), 2) := by decide +kernel
theorem dX3_firstUntrue_75 : decode cX3_firstUntrue 75 = .ok (.ireturn, 1) := by decide +kernel
theorem dX3_isNot_0 : decode cX3_isNot 0 = .ok (.iload_n 0, 1) := by decide +kernel
theorem dX3_isNot_1 : decode cX3_isNot 1 = .ok (.ifCond .lt 8, 3) := by decide +kernel
theorem dX3_isNot_4 : decode cX3_isNot 4 = .ok (.iload_n 0, 1) := by decide +kernel
theorem dX3_isNot_5 : decode cX3_isNot 5 = .ok (.iload_n 1, 1) := by decide +kernel
theorem dX3_isNot_6 : decode cX3_isNot 6 = .ok (.if_icmp .lt 7, 3) := by decide +kernel
theorem dX3_isNot_9 : decode cX3_isNot 9 = .ok (.iconst 1, 1) := by decide +kernel
theorem dX3_isNot_10 : decode cX3_isNot 10 = .ok (.goto 4, 3) := by decide +kernel
theorem dX3_isNot_13 : decode cX3_isNot 13 = .ok (.iconst 0, 1) := by decide +kernel
theorem dX3_isNot_14 : decode cX3_isNot 14 = .ok (.ireturn, 1) := by decide +kernel
theorem dX3_isNoCell_0 : decode cX3_isNoCell 0 = .ok (.iload_n 0, 1) := by decide +kernel
theorem dX3_isNoCell_1 : decode cX3_isNoCell 1 = .ok (.ifCond .lt 9, 3) := by decide +kernel
theorem dX3_isNoCell_4 : decode cX3_isNoCell 4 = .ok (.iload_n 0, 1) := by decide +kernel
theorem dX3_isNoCell_5 : decode cX3_isNoCell 5 = .ok (.bipush 24, 2) := by decide +kernel
theorem dX3_isNoCell_7 : decode cX3_isNoCell 7 = .ok (.if_icmp .lt 7, 3) := by decide +kernel
theorem dX3_isNoCell_10 : decode cX3_isNoCell 10 = .ok (.iconst 1, 1) := by decide +kernel
theorem dX3_isNoCell_11 : decode cX3_isNoCell 11 = .ok (.goto 4, 3) := by decide +kernel
theorem dX3_isNoCell_14 : decode cX3_isNoCell 14 = .ok (.iconst 0, 1) := by decide +kernel
theorem dX3_isNoCell_15 : decode cX3_isNoCell 15 = .ok (.ireturn, 1) := by decide +kernel
theorem dX3_within_0 : decode cX3_within 0 = .ok (.iload_n 0, 1) := by decide +kernel
theorem dX3_within_1 : decode cX3_within 1 = .ok (.iload_n 1, 1) := by decide +kernel
theorem dX3_within_2 : decode cX3_within 2 = .ok (.if_icmp .lt 12, 3) := by decide +kernel
theorem dX3_within_5 : decode cX3_within 5 = .ok (.iload_n 0, 1) := by decide +kernel
theorem dX3_within_6 : decode cX3_within 6 = .ok (.iload_n 2, 1) := by decide +kernel
theorem dX3_within_7 : decode cX3_within 7 = .ok (.if_icmp .gt 7, 3) := by decide +kernel
theorem dX3_within_10 : decode cX3_within 10 = .ok (.iconst 1, 1) := by decide +kernel
theorem dX3_within_11 : decode cX3_within 11 = .ok (.goto 4, 3) := by decide +kernel
theorem dX3_within_14 : decode cX3_within 14 = .ok (.iconst 0, 1) := by decide +kernel
theorem dX3_within_15 : decode cX3_within 15 = .ok (.ireturn, 1) := by decide +kernel
theorem dX3_farApart_0 : decode cX3_farApart 0 = .ok (.iload_n 0, 1) := by decide +kernel
theorem dX3_farApart_1 : decode cX3_farApart 1 = .ok (.bipush 6, 2) := by decide +kernel
theorem dX3_farApart_3 : decode cX3_farApart 3 = .ok (.idiv, 1) := by decide +kernel
theorem dX3_farApart_4 : decode cX3_farApart 4 = .ok (.iload_n 1, 1) := by decide +kernel
theorem dX3_farApart_5 : decode cX3_farApart 5 = .ok (.bipush 6, 2) := by decide +kernel
theorem dX3_farApart_7 : decode cX3_farApart 7 = .ok (.idiv, 1) := by decide +kernel
theorem dX3_farApart_8 : decode cX3_farApart 8 = .ok (.isub, 1) := by decide +kernel
theorem dX3_farApart_9 : decode cX3_farApart 9 = .ok (.invokestatic 211, 3) := by decide +kernel
theorem dX3_farApart_12 : decode cX3_farApart 12 = .ok (.iload_n 0, 1) := by decide +kernel
theorem dX3_farApart_13 : decode cX3_farApart 13 = .ok (.bipush 6, 2) := by decide +kernel
theorem dX3_farApart_15 : decode cX3_farApart 15 = .ok (.irem, 1) := by decide +kernel
theorem dX3_farApart_16 : decode cX3_farApart 16 = .ok (.iload_n 1, 1) := by decide +kernel
theorem dX3_farApart_17 : decode cX3_farApart 17 = .ok (.bipush 6, 2) := by decide +kernel
theorem dX3_farApart_19 : decode cX3_farApart 19 = .ok (.irem, 1) := by decide +kernel
theorem dX3_farApart_20 : decode cX3_farApart 20 = .ok (.isub, 1) := by decide +kernel
theorem dX3_farApart_21 : decode cX3_farApart 21 = .ok (.invokestatic 211, 3) := by decide +kernel
theorem dX3_farApart_24 : decode cX3_farApart 24 = .ok (.iadd, 1) := by decide +kernel
theorem dX3_farApart_25 : decode cX3_farApart 25 = .ok (.ireturn, 1) := by decide +kernel
theorem dX3_boxOf_0 : decode cX3_boxOf 0 = .ok (.iload_n 1, 1) := by decide +kernel
theorem dX3_boxOf_1 : decode cX3_boxOf 1 = .ok (.iload_n 2, 1) := by decide +kernel
theorem dX3_boxOf_2 : decode cX3_boxOf 2 = .ok (.bipush 6, 2) := by decide +kernel
theorem dX3_boxOf_4 : decode cX3_boxOf 4 = .ok (.idiv, 1) := by decide +kernel
theorem dX3_boxOf_5 : decode cX3_boxOf 5 = .ok (.iload_n 0, 1) := by decide +kernel
theorem dX3_boxOf_6 : decode cX3_boxOf 6 = .ok (.imul, 1) := by decide +kernel
theorem dX3_boxOf_7 : decode cX3_boxOf 7 = .ok (.iconst 4, 1) := by decide +kernel
theorem dX3_boxOf_8 : decode cX3_boxOf 8 = .ok (.idiv, 1) := by decide +kernel
theorem dX3_boxOf_9 : decode cX3_boxOf 9 = .ok (.imul, 1) := by decide +kernel
theorem dX3_boxOf_10 : decode cX3_boxOf 10 = .ok (.iload_n 2, 1) := by decide +kernel
theorem dX3_boxOf_11 : decode cX3_boxOf 11 = .ok (.bipush 6, 2) := by decide +kernel
theorem dX3_boxOf_13 : decode cX3_boxOf 13 = .ok (.irem, 1) := by decide +kernel
theorem dX3_boxOf_14 : decode cX3_boxOf 14 = .ok (.iload_n 1, 1) := by decide +kernel
theorem dX3_boxOf_15 : decode cX3_boxOf 15 = .ok (.imul, 1) := by decide +kernel
theorem dX3_boxOf_16 : decode cX3_boxOf 16 = .ok (.bipush 6, 2) := by decide +kernel
theorem dX3_boxOf_18 : decode cX3_boxOf 18 = .ok (.idiv, 1) := by decide +kernel
theorem dX3_boxOf_19 : decode cX3_boxOf 19 = .ok (.iadd, 1) := by decide +kernel
theorem dX3_boxOf_20 : decode cX3_boxOf 20 = .ok (.ireturn, 1) := by decide +kernel
theorem dX3_wordSaid_0 : decode cX3_wordSaid 0 = .ok (.iload_n 1, 1) := by decide +kernel
theorem dX3_wordSaid_1 : decode cX3_wordSaid 1 = .ok (.bipush 24, 2) := by decide +kernel
theorem dX3_wordSaid_3 : decode cX3_wordSaid 3 = .ok (.if_icmp .ne 6, 3) := by decide +kernel
theorem dX3_wordSaid_6 : decode cX3_wordSaid 6 = .ok (.bipush 9, 2) := by decide +kernel
theorem dX3_wordSaid_8 : decode cX3_wordSaid 8 = .ok (.ireturn, 1) := by decide +kernel
theorem dX3_wordSaid_9 : decode cX3_wordSaid 9 = .ok (.iload_n 1, 1) := by decide +kernel
theorem dX3_wordSaid_10 : decode cX3_wordSaid 10 = .ok (.bipush 6, 2) := by decide +kernel
theorem dX3_wordSaid_12 : decode cX3_wordSaid 12 = .ok (.idiv, 1) := by decide +kernel
theorem dX3_wordSaid_13 : decode cX3_wordSaid 13 = .ok (.iload_n 0, 1) := by decide +kernel
theorem dX3_wordSaid_14 : decode cX3_wordSaid 14 = .ok (.bipush 6, 2) := by decide +kernel
theorem dX3_wordSaid_16 : decode cX3_wordSaid 16 = .ok (.idiv, 1) := by decide +kernel
theorem dX3_wordSaid_17 : decode cX3_wordSaid 17 = .ok (.isub, 1) := by decide +kernel
theorem dX3_wordSaid_18 : decode cX3_wordSaid 18 = .ok (.istore 4, 2) := by decide +kernel
theorem dX3_wordSaid_20 : decode cX3_wordSaid 20 = .ok (.iload 4, 2) := by decide +kernel
theorem dX3_wordSaid_22 : decode cX3_wordSaid 22 = .ok (.ifCond .eq 29, 3) := by decide +kernel
theorem dX3_wordSaid_25 : decode cX3_wordSaid 25 = .ok (.iload 4, 2) := by decide +kernel
theorem dX3_wordSaid_27 : decode cX3_wordSaid 27 = .ok (.ifCond .ge 7, 3) := by decide +kernel
theorem dX3_wordSaid_30 : decode cX3_wordSaid 30 = .ok (.iconst 0, 1) := by decide +kernel
theorem dX3_wordSaid_31 : decode cX3_wordSaid 31 = .ok (.goto 4, 3) := by decide +kernel
theorem dX3_wordSaid_34 : decode cX3_wordSaid 34 = .ok (.iconst 1, 1) := by decide +kernel
theorem dX3_wordSaid_35 : decode cX3_wordSaid 35 = .ok (.iload 4, 2) := by decide +kernel
theorem dX3_wordSaid_37 : decode cX3_wordSaid 37 = .ok (.invokestatic 211, 3) := by decide +kernel
theorem dX3_wordSaid_40 : decode cX3_wordSaid 40 = .ok (.iload_n 3, 1) := by decide +kernel
theorem dX3_wordSaid_41 : decode cX3_wordSaid 41 = .ok (.if_icmp .lt 7, 3) := by decide +kernel
theorem dX3_wordSaid_44 : decode cX3_wordSaid 44 = .ok (.iconst 4, 1) := by decide +kernel
theorem dX3_wordSaid_45 : decode cX3_wordSaid 45 = .ok (.goto 4, 3) := by decide +kernel
theorem dX3_wordSaid_48 : decode cX3_wordSaid 48 = .ok (.iconst 0, 1) := by decide +kernel
theorem dX3_wordSaid_49 : decode cX3_wordSaid 49 = .ok (.iadd, 1) := by decide +kernel
theorem dX3_wordSaid_50 : decode cX3_wordSaid 50 = .ok (.ireturn, 1) := by decide +kernel
theorem dX3_wordSaid_51 : decode cX3_wordSaid 51 = .ok (.iload_n 1, 1) := by decide +kernel
theorem dX3_wordSaid_52 : decode cX3_wordSaid 52 = .ok (.bipush 6, 2) := by decide +kernel
theorem dX3_wordSaid_54 : decode cX3_wordSaid 54 = .ok (.irem, 1) := by decide +kernel
theorem dX3_wordSaid_55 : decode cX3_wordSaid 55 = .ok (.iload_n 0, 1) := by decide +kernel
theorem dX3_wordSaid_56 : decode cX3_wordSaid 56 = .ok (.bipush 6, 2) := by decide +kernel
theorem dX3_wordSaid_58 : decode cX3_wordSaid 58 = .ok (.irem, 1) := by decide +kernel
theorem dX3_wordSaid_59 : decode cX3_wordSaid 59 = .ok (.isub, 1) := by decide +kernel
theorem dX3_wordSaid_60 : decode cX3_wordSaid 60 = .ok (.istore 5, 2) := by decide +kernel
theorem dX3_wordSaid_62 : decode cX3_wordSaid 62 = .ok (.iload 5, 2) := by decide +kernel
theorem dX3_wordSaid_64 : decode cX3_wordSaid 64 = .ok (.ifCond .eq 58, 3) := by decide +kernel
theorem dX3_wordSaid_67 : decode cX3_wordSaid 67 = .ok (.iload 5, 2) := by decide +kernel
theorem dX3_wordSaid_69 : decode cX3_wordSaid 69 = .ok (.ifCond .ge 7, 3) := by decide +kernel
theorem dX3_wordSaid_72 : decode cX3_wordSaid 72 = .ok (.iconst 1, 1) := by decide +kernel
theorem dX3_wordSaid_73 : decode cX3_wordSaid 73 = .ok (.goto 4, 3) := by decide +kernel
theorem dX3_wordSaid_76 : decode cX3_wordSaid 76 = .ok (.iconst 0, 1) := by decide +kernel
theorem dX3_wordSaid_77 : decode cX3_wordSaid 77 = .ok (.iload_n 2, 1) := by decide +kernel
theorem dX3_wordSaid_78 : decode cX3_wordSaid 78 = .ok (.ifCond .ne 7, 3) := by decide +kernel
theorem dX3_wordSaid_81 : decode cX3_wordSaid 81 = .ok (.iconst 1, 1) := by decide +kernel
theorem dX3_wordSaid_82 : decode cX3_wordSaid 82 = .ok (.goto 4, 3) := by decide +kernel
theorem dX3_wordSaid_85 : decode cX3_wordSaid 85 = .ok (.iconst 0, 1) := by decide +kernel
theorem dX3_wordSaid_86 : decode cX3_wordSaid 86 = .ok (.if_icmp .ne 7, 3) := by decide +kernel
theorem dX3_wordSaid_89 : decode cX3_wordSaid 89 = .ok (.iconst 1, 1) := by decide +kernel
theorem dX3_wordSaid_90 : decode cX3_wordSaid 90 = .ok (.goto 4, 3) := by decide +kernel
theorem dX3_wordSaid_93 : decode cX3_wordSaid 93 = .ok (.iconst 0, 1) := by decide +kernel
theorem dX3_wordSaid_94 : decode cX3_wordSaid 94 = .ok (.istore 6, 2) := by decide +kernel
theorem dX3_wordSaid_96 : decode cX3_wordSaid 96 = .ok (.iload 6, 2) := by decide +kernel
theorem dX3_wordSaid_98 : decode cX3_wordSaid 98 = .ok (.ifCond .eq 7, 3) := by decide +kernel
theorem dX3_wordSaid_101 : decode cX3_wordSaid 101 = .ok (.iconst 2, 1) := by decide +kernel
theorem dX3_wordSaid_102 : decode cX3_wordSaid 102 = .ok (.goto 4, 3) := by decide +kernel
theorem dX3_wordSaid_105 : decode cX3_wordSaid 105 = .ok (.iconst 3, 1) := by decide +kernel
theorem dX3_wordSaid_106 : decode cX3_wordSaid 106 = .ok (.iload 5, 2) := by decide +kernel
theorem dX3_wordSaid_108 : decode cX3_wordSaid 108 = .ok (.invokestatic 211, 3) := by decide +kernel
theorem dX3_wordSaid_111 : decode cX3_wordSaid 111 = .ok (.iload_n 3, 1) := by decide +kernel
theorem dX3_wordSaid_112 : decode cX3_wordSaid 112 = .ok (.if_icmp .lt 7, 3) := by decide +kernel
theorem dX3_wordSaid_115 : decode cX3_wordSaid 115 = .ok (.iconst 4, 1) := by decide +kernel
theorem dX3_wordSaid_116 : decode cX3_wordSaid 116 = .ok (.goto 4, 3) := by decide +kernel
theorem dX3_wordSaid_119 : decode cX3_wordSaid 119 = .ok (.iconst 0, 1) := by decide +kernel
theorem dX3_wordSaid_120 : decode cX3_wordSaid 120 = .ok (.iadd, 1) := by decide +kernel
theorem dX3_wordSaid_121 : decode cX3_wordSaid 121 = .ok (.ireturn, 1) := by decide +kernel
theorem dX3_wordSaid_122 : decode cX3_wordSaid 122 = .ok (.bipush 8, 2) := by decide +kernel
theorem dX3_wordSaid_124 : decode cX3_wordSaid 124 = .ok (.ireturn, 1) := by decide +kernel
theorem dX3_partOfFraction_0 : decode cX3_partOfFraction 0 = .ok (.lload_n 0, 1) := by decide +kernel
theorem dX3_partOfFraction_1 : decode cX3_partOfFraction 1 = .ok (.lload_n 2, 1) := by decide +kernel
theorem dX3_partOfFraction_2 : decode cX3_partOfFraction 2 = .ok (.invokestatic 214, 3) := by decide +kernel
theorem dX3_partOfFraction_5 : decode cX3_partOfFraction 5 = .ok (.lstore 5, 2) := by decide +kernel
theorem dX3_partOfFraction_7 : decode cX3_partOfFraction 7 = .ok (.iload 4, 2) := by decide +kernel
theorem dX3_partOfFraction_9 : decode cX3_partOfFraction 9 = .ok (.ifCond .ne 7, 3) := by decide +kernel
theorem dX3_partOfFraction_12 : decode cX3_partOfFraction 12 = .ok (.lload_n 0, 1) := by decide +kernel
theorem dX3_partOfFraction_13 : decode cX3_partOfFraction 13 = .ok (.goto 4, 3) := by decide +kernel
theorem dX3_partOfFraction_16 : decode cX3_partOfFraction 16 = .ok (.lload_n 2, 1) := by decide +kernel
theorem dX3_partOfFraction_17 : decode cX3_partOfFraction 17 = .ok (.lstore 7, 2) := by decide +kernel
theorem dX3_partOfFraction_19 : decode cX3_partOfFraction 19 = .ok (.lload 5, 2) := by decide +kernel
theorem dX3_partOfFraction_21 : decode cX3_partOfFraction 21 = .ok (.lconst 0, 1) := by decide +kernel
theorem dX3_partOfFraction_22 : decode cX3_partOfFraction 22 = .ok (.lcmp, 1) := by decide +kernel
theorem dX3_partOfFraction_23 : decode cX3_partOfFraction 23 = .ok (.ifCond .ne 8, 3) := by decide +kernel
theorem dX3_partOfFraction_26 : decode cX3_partOfFraction 26 = .ok (.lload 7, 2) := by decide +kernel
theorem dX3_partOfFraction_28 : decode cX3_partOfFraction 28 = .ok (.goto 8, 3) := by decide +kernel
theorem dX3_partOfFraction_31 : decode cX3_partOfFraction 31 = .ok (.lload 7, 2) := by decide +kernel
theorem dX3_partOfFraction_33 : decode cX3_partOfFraction 33 = .ok (.lload 5, 2) := by decide +kernel
theorem dX3_partOfFraction_35 : decode cX3_partOfFraction 35 = .ok (.ldiv, 1) := by decide +kernel
theorem dX3_partOfFraction_36 : decode cX3_partOfFraction 36 = .ok (.lreturn, 1) := by decide +kernel
theorem dX3_commonDivisor_0 : decode cX3_commonDivisor 0 = .ok (.lload_n 0, 1) := by decide +kernel
theorem dX3_commonDivisor_1 : decode cX3_commonDivisor 1 = .ok (.lstore 4, 2) := by decide +kernel
theorem dX3_commonDivisor_3 : decode cX3_commonDivisor 3 = .ok (.lload_n 2, 1) := by decide +kernel
theorem dX3_commonDivisor_4 : decode cX3_commonDivisor 4 = .ok (.lstore 6, 2) := by decide +kernel
theorem dX3_commonDivisor_6 : decode cX3_commonDivisor 6 = .ok (.iconst 0, 1) := by decide +kernel
theorem dX3_commonDivisor_7 : decode cX3_commonDivisor 7 = .ok (.istore 8, 2) := by decide +kernel
theorem dX3_commonDivisor_9 : decode cX3_commonDivisor 9 = .ok (.iload 8, 2) := by decide +kernel
theorem dX3_commonDivisor_11 : decode cX3_commonDivisor 11 = .ok (.sipush 200, 3) := by decide +kernel
theorem dX3_commonDivisor_14 : decode cX3_commonDivisor 14 = .ok (.if_icmp .ge 31, 3) := by decide +kernel
theorem dX3_commonDivisor_17 : decode cX3_commonDivisor 17 = .ok (.lload 6, 2) := by decide +kernel
theorem dX3_commonDivisor_19 : decode cX3_commonDivisor 19 = .ok (.lconst 0, 1) := by decide +kernel
theorem dX3_commonDivisor_20 : decode cX3_commonDivisor 20 = .ok (.lcmp, 1) := by decide +kernel
theorem dX3_commonDivisor_21 : decode cX3_commonDivisor 21 = .ok (.ifCond .eq 24, 3) := by decide +kernel
theorem dX3_commonDivisor_24 : decode cX3_commonDivisor 24 = .ok (.lload 4, 2) := by decide +kernel
theorem dX3_commonDivisor_26 : decode cX3_commonDivisor 26 = .ok (.lload 6, 2) := by decide +kernel
theorem dX3_commonDivisor_28 : decode cX3_commonDivisor 28 = .ok (.lrem, 1) := by decide +kernel
theorem dX3_commonDivisor_29 : decode cX3_commonDivisor 29 = .ok (.lstore 9, 2) := by decide +kernel
theorem dX3_commonDivisor_31 : decode cX3_commonDivisor 31 = .ok (.lload 6, 2) := by decide +kernel
theorem dX3_commonDivisor_33 : decode cX3_commonDivisor 33 = .ok (.lstore 4, 2) := by decide +kernel
theorem dX3_commonDivisor_35 : decode cX3_commonDivisor 35 = .ok (.lload 9, 2) := by decide +kernel
theorem dX3_commonDivisor_37 : decode cX3_commonDivisor 37 = .ok (.lstore 6, 2) := by decide +kernel
theorem dX3_commonDivisor_39 : decode cX3_commonDivisor 39 = .ok (.iinc 8 1, 3) := by decide +kernel
theorem dX3_commonDivisor_42 : decode cX3_commonDivisor 42 = .ok (.goto (-33), 3) := by decide +kernel
theorem dX3_commonDivisor_45 : decode cX3_commonDivisor 45 = .ok (.lload 4, 2) := by decide +kernel
theorem dX3_commonDivisor_47 : decode cX3_commonDivisor 47 = .ok (.lreturn, 1) := by decide +kernel
theorem dX4_init_0 : decode cX4_init 0 = .ok (.aload_n 0, 1) := by decide +kernel
theorem dX4_init_1 : decode cX4_init 1 = .ok (.invokespecial 1, 3) := by decide +kernel
theorem dX4_init_4 : decode cX4_init 4 = .ok (.aload_n 0, 1) := by decide +kernel
theorem dX4_init_5 : decode cX4_init 5 = .ok (.bipush 7, 2) := by decide +kernel
theorem dX4_init_7 : decode cX4_init 7 = .ok (.newarray .int, 2) := by decide +kernel
theorem dX4_init_9 : decode cX4_init 9 = .ok (.putfield 7, 3) := by decide +kernel
theorem dX4_init_12 : decode cX4_init 12 = .ok (.aload_n 0, 1) := by decide +kernel
theorem dX4_init_13 : decode cX4_init 13 = .ok (.bipush 24, 2) := by decide +kernel
theorem dX4_init_15 : decode cX4_init 15 = .ok (.newarray .int, 2) := by decide +kernel
theorem dX4_init_17 : decode cX4_init 17 = .ok (.putfield 13, 3) := by decide +kernel
theorem dX4_init_20 : decode cX4_init 20 = .ok (.aload_n 0, 1) := by decide +kernel
theorem dX4_init_21 : decode cX4_init 21 = .ok (.iconst 4, 1) := by decide +kernel
theorem dX4_init_22 : decode cX4_init 22 = .ok (.newarray .int, 2) := by decide +kernel
theorem dX4_init_24 : decode cX4_init 24 = .ok (.putfield 16, 3) := by decide +kernel
theorem dX4_init_27 : decode cX4_init 27 = .ok (.aload_n 0, 1) := by decide +kernel
theorem dX4_init_28 : decode cX4_init 28 = .ok (.bipush 80, 2) := by decide +kernel
theorem dX4_init_30 : decode cX4_init 30 = .ok (.newarray .int, 2) := by decide +kernel
theorem dX4_init_32 : decode cX4_init 32 = .ok (.putfield 19, 3) := by decide +kernel
theorem dX4_init_35 : decode cX4_init 35 = .ok (.aload_n 0, 1) := by decide +kernel
theorem dX4_init_36 : decode cX4_init 36 = .ok (.bipush 40, 2) := by decide +kernel
theorem dX4_init_38 : decode cX4_init 38 = .ok (.newarray .int, 2) := by decide +kernel
theorem dX4_init_40 : decode cX4_init 40 = .ok (.putfield 22, 3) := by decide +kernel
theorem dX4_init_43 : decode cX4_init 43 = .ok (.aload_n 0, 1) := by decide +kernel
theorem dX4_init_44 : decode cX4_init 44 = .ok (.bipush 40, 2) := by decide +kernel
theorem dX4_init_46 : decode cX4_init 46 = .ok (.newarray .int, 2) := by decide +kernel
theorem dX4_init_48 : decode cX4_init 48 = .ok (.putfield 25, 3) := by decide +kernel
theorem dX4_init_51 : decode cX4_init 51 = .ok (.aload_n 0, 1) := by decide +kernel
theorem dX4_init_52 : decode cX4_init 52 = .ok (.bipush 120, 2) := by decide +kernel
theorem dX4_init_54 : decode cX4_init 54 = .ok (.newarray .int, 2) := by decide +kernel
theorem dX4_init_56 : decode cX4_init 56 = .ok (.putfield 28, 3) := by decide +kernel
theorem dX4_init_59 : decode cX4_init 59 = .ok (.aload_n 0, 1) := by decide +kernel
theorem dX4_init_60 : decode cX4_init 60 = .ok (.bipush 105, 2) := by decide +kernel
theorem dX4_init_62 : decode cX4_init 62 = .ok (.newarray .int, 2) := by decide +kernel
theorem dX4_init_64 : decode cX4_init 64 = .ok (.putfield 31, 3) := by decide +kernel
theorem dX4_init_67 : decode cX4_init 67 = .ok (.aload_n 0, 1) := by decide +kernel
theorem dX4_init_68 : decode cX4_init 68 = .ok (.bipush 8, 2) := by decide +kernel
theorem dX4_init_70 : decode cX4_init 70 = .ok (.newarray .int, 2) := by decide +kernel
theorem dX4_init_72 : decode cX4_init 72 = .ok (.putfield 34, 3) := by decide +kernel
theorem dX4_init_75 : decode cX4_init 75 = .ok (.aload_n 0, 1) := by decide +kernel
theorem dX4_init_76 : decode cX4_init 76 = .ok (.bipush 8, 2) := by decide +kernel
theorem dX4_init_78 : decode cX4_init 78 = .ok (.newarray .int, 2) := by decide +kernel
theorem dX4_init_80 : decode cX4_init 80 = .ok (.putfield 37, 3) := by decide +kernel
theorem dX4_init_83 : decode cX4_init 83 = .ok (.aload_n 0, 1) := by decide +kernel
theorem dX4_init_84 : decode cX4_init 84 = .ok (.bipush 10, 2) := by decide +kernel
theorem dX4_init_86 : decode cX4_init 86 = .ok (.newarray .int, 2) := by decide +kernel
theorem dX4_init_88 : decode cX4_init 88 = .ok (.putfield 40, 3) := by decide +kernel
theorem dX4_init_91 : decode cX4_init 91 = .ok (.aload_n 0, 1) := by decide +kernel
theorem dX4_init_92 : decode cX4_init 92 = .ok (.bipush 20, 2) := by decide +kernel
theorem dX4_init_94 : decode cX4_init 94 = .ok (.newarray .int, 2) := by decide +kernel
theorem dX4_init_96 : decode cX4_init 96 = .ok (.putfield 43, 3) := by decide +kernel
theorem dX4_init_99 : decode cX4_init 99 = .ok (.aload_n 0, 1) := by decide +kernel
theorem dX4_init_100 : decode cX4_init 100 = .ok (.getfield 16, 3) := by decide +kernel
theorem dX4_init_103 : decode cX4_init 103 = .ok (.iconst 1, 1) := by decide +kernel
theorem dX4_init_104 : decode cX4_init 104 = .ok (.iconst 1, 1) := by decide +kernel
theorem dX4_init_105 : decode cX4_init 105 = .ok (.iastore, 1) := by decide +kernel
theorem dX4_init_106 : decode cX4_init 106 = .ok (.aload_n 0, 1) := by decide +kernel
theorem dX4_init_107 : decode cX4_init 107 = .ok (.getfield 16, 3) := by decide +kernel
theorem dX4_init_110 : decode cX4_init 110 = .ok (.iconst 2, 1) := by decide +kernel
theorem dX4_init_111 : decode cX4_init 111 = .ok (.iconst 3, 1) := by decide +kernel
theorem dX4_init_112 : decode cX4_init 112 = .ok (.iastore, 1) := by decide +kernel
theorem dX4_init_113 : decode cX4_init 113 = .ok (.return_, 1) := by decide +kernel
theorem dX4_no_0 : decode cX4_no 0 = .ok (.aload_n 0, 1) := by decide +kernel
theorem dX4_no_1 : decode cX4_no 1 = .ok (.getfield 7, 3) := by decide +kernel
theorem dX4_no_4 : decode cX4_no 4 = .ok (.iload_n 1, 1) := by decide +kernel
theorem dX4_no_5 : decode cX4_no 5 = .ok (.ineg, 1) := by decide +kernel
theorem dX4_no_6 : decode cX4_no 6 = .ok (.dup2, 1) := by decide +kernel
theorem dX4_no_7 : decode cX4_no 7 = .ok (.iaload, 1) := by decide +kernel
theorem dX4_no_8 : decode cX4_no 8 = .ok (.iconst 1, 1) := by decide +kernel
theorem dX4_no_9 : decode cX4_no 9 = .ok (.iadd, 1) := by decide +kernel
theorem dX4_no_10 : decode cX4_no 10 = .ok (.iastore, 1) := by decide +kernel
theorem dX4_no_11 : decode cX4_no 11 = .ok (.iload_n 1, 1) := by decide +kernel
theorem dX4_no_12 : decode cX4_no 12 = .ok (.ireturn, 1) := by decide +kernel
theorem dX4_lowest_0 : decode cX4_lowest 0 = .ok (.aload_n 0, 1) := by decide +kernel
theorem dX4_lowest_1 : decode cX4_lowest 1 = .ok (.getfield 7, 3) := by decide +kernel
theorem dX4_lowest_4 : decode cX4_lowest 4 = .ok (.iload_n 1, 1) := by decide +kernel
theorem dX4_lowest_5 : decode cX4_lowest 5 = .ok (.ineg, 1) := by decide +kernel
theorem dX4_lowest_6 : decode cX4_lowest 6 = .ok (.dup2, 1) := by decide +kernel
theorem dX4_lowest_7 : decode cX4_lowest 7 = .ok (.iaload, 1) := by decide +kernel
theorem dX4_lowest_8 : decode cX4_lowest 8 = .ok (.iconst 1, 1) := by decide +kernel
theorem dX4_lowest_9 : decode cX4_lowest 9 = .ok (.iadd, 1) := by decide +kernel
theorem dX4_lowest_10 : decode cX4_lowest 10 = .ok (.iastore, 1) := by decide +kernel
theorem dX4_lowest_11 : decode cX4_lowest 11 = .ok (.ldc2_w 46, 3) := by decide +kernel
theorem dX4_lowest_14 : decode cX4_lowest 14 = .ok (.iload_n 1, 1) := by decide +kernel
theorem dX4_lowest_15 : decode cX4_lowest 15 = .ok (.i2l, 1) := by decide +kernel
theorem dX4_lowest_16 : decode cX4_lowest 16 = .ok (.lsub, 1) := by decide +kernel
theorem dX4_lowest_17 : decode cX4_lowest 17 = .ok (.lreturn, 1) := by decide +kernel
theorem dX4_isIn_0 : decode cX4_isIn 0 = .ok (.iload_n 0, 1) := by decide +kernel
theorem dX4_isIn_1 : decode cX4_isIn 1 = .ok (.iload_n 1, 1) := by decide +kernel
theorem dX4_isIn_2 : decode cX4_isIn 2 = .ok (.if_icmp .lt 12, 3) := by decide +kernel
theorem dX4_isIn_5 : decode cX4_isIn 5 = .ok (.iload_n 0, 1) := by decide +kernel
theorem dX4_isIn_6 : decode cX4_isIn 6 = .ok (.iload_n 2, 1) := by decide +kernel
theorem dX4_isIn_7 : decode cX4_isIn 7 = .ok (.if_icmp .gt 7, 3) := by decide +kernel
theorem dX4_isIn_10 : decode cX4_isIn 10 = .ok (.iconst 1, 1) := by decide +kernel
theorem dX4_isIn_11 : decode cX4_isIn 11 = .ok (.goto 4, 3) := by decide +kernel
theorem dX4_isIn_14 : decode cX4_isIn 14 = .ok (.iconst 0, 1) := by decide +kernel
theorem dX4_isIn_15 : decode cX4_isIn 15 = .ok (.ireturn, 1) := by decide +kernel
theorem dX4_bound_0 : decode cX4_bound 0 = .ok (.iload_n 0, 1) := by decide +kernel
theorem dX4_bound_1 : decode cX4_bound 1 = .ok (.iload_n 1, 1) := by decide +kernel
theorem dX4_bound_2 : decode cX4_bound 2 = .ok (.if_icmp .ge 8, 3) := by decide +kernel
theorem dX4_bound_5 : decode cX4_bound 5 = .ok (.bipush (-4), 2) := by decide +kernel
theorem dX4_bound_7 : decode cX4_bound 7 = .ok (.goto 14, 3) := by decide +kernel
theorem dX4_bound_10 : decode cX4_bound 10 = .ok (.iload_n 0, 1) := by decide +kernel
theorem dX4_bound_11 : decode cX4_bound 11 = .ok (.iload_n 2, 1) := by decide +kernel
theorem dX4_bound_12 : decode cX4_bound 12 = .ok (.if_icmp .le 8, 3) := by decide +kernel
theorem dX4_bound_15 : decode cX4_bound 15 = .ok (.bipush (-6), 2) := by decide +kernel
theorem dX4_bound_17 : decode cX4_bound 17 = .ok (.goto 4, 3) := by decide +kernel
theorem dX4_bound_20 : decode cX4_bound 20 = .ok (.iconst 0, 1) := by decide +kernel
theorem dX4_bound_21 : decode cX4_bound 21 = .ok (.ireturn, 1) := by decide +kernel
theorem dX4_held_0 : decode cX4_held 0 = .ok (.iload_n 0, 1) := by decide +kernel
theorem dX4_held_1 : decode cX4_held 1 = .ok (.iload_n 1, 1) := by decide +kernel
theorem dX4_held_2 : decode cX4_held 2 = .ok (.if_icmp .ge 7, 3) := by decide +kernel
theorem dX4_held_5 : decode cX4_held 5 = .ok (.iload_n 1, 1) := by decide +kernel
theorem dX4_held_6 : decode cX4_held 6 = .ok (.goto 13, 3) := by decide +kernel
theorem dX4_held_9 : decode cX4_held 9 = .ok (.iload_n 0, 1) := by decide +kernel
theorem dX4_held_10 : decode cX4_held 10 = .ok (.iload_n 2, 1) := by decide +kernel
theorem dX4_held_11 : decode cX4_held 11 = .ok (.if_icmp .le 7, 3) := by decide +kernel
theorem dX4_held_14 : decode cX4_held 14 = .ok (.iload_n 2, 1) := by decide +kernel
theorem dX4_held_15 : decode cX4_held 15 = .ok (.goto 4, 3) := by decide +kernel
theorem dX4_held_18 : decode cX4_held 18 = .ok (.iload_n 0, 1) := by decide +kernel
theorem dX4_held_19 : decode cX4_held 19 = .ok (.ireturn, 1) := by decide +kernel
theorem dX4_apart_0 : decode cX4_apart 0 = .ok (.iload_n 0, 1) := by decide +kernel
theorem dX4_apart_1 : decode cX4_apart 1 = .ok (.iload_n 1, 1) := by decide +kernel
theorem dX4_apart_2 : decode cX4_apart 2 = .ok (.if_icmp .ge 9, 3) := by decide +kernel
theorem dX4_apart_5 : decode cX4_apart 5 = .ok (.iload_n 1, 1) := by decide +kernel
theorem dX4_apart_6 : decode cX4_apart 6 = .ok (.iload_n 0, 1) := by decide +kernel
theorem dX4_apart_7 : decode cX4_apart 7 = .ok (.isub, 1) := by decide +kernel
theorem dX4_apart_8 : decode cX4_apart 8 = .ok (.goto 6, 3) := by decide +kernel
theorem dX4_apart_11 : decode cX4_apart 11 = .ok (.iload_n 0, 1) := by decide +kernel
theorem dX4_apart_12 : decode cX4_apart 12 = .ok (.iload_n 1, 1) := by decide +kernel
theorem dX4_apart_13 : decode cX4_apart 13 = .ok (.isub, 1) := by decide +kernel
theorem dX4_apart_14 : decode cX4_apart 14 = .ok (.ireturn, 1) := by decide +kernel
theorem dX4_isCell_0 : decode cX4_isCell 0 = .ok (.iload_n 0, 1) := by decide +kernel
theorem dX4_isCell_1 : decode cX4_isCell 1 = .ok (.ifCond .lt 13, 3) := by decide +kernel
theorem dX4_isCell_4 : decode cX4_isCell 4 = .ok (.iload_n 0, 1) := by decide +kernel
theorem dX4_isCell_5 : decode cX4_isCell 5 = .ok (.bipush 24, 2) := by decide +kernel
theorem dX4_isCell_7 : decode cX4_isCell 7 = .ok (.if_icmp .ge 7, 3) := by decide +kernel
theorem dX4_isCell_10 : decode cX4_isCell 10 = .ok (.iconst 1, 1) := by decide +kernel
theorem dX4_isCell_11 : decode cX4_isCell 11 = .ok (.goto 4, 3) := by decide +kernel
theorem dX4_isCell_14 : decode cX4_isCell 14 = .ok (.iconst 0, 1) := by decide +kernel
theorem dX4_isCell_15 : decode cX4_isCell 15 = .ok (.ireturn, 1) := by decide +kernel
theorem dX4_farOf_0 : decode cX4_farOf 0 = .ok (.iload_n 0, 1) := by decide +kernel
theorem dX4_farOf_1 : decode cX4_farOf 1 = .ok (.bipush 6, 2) := by decide +kernel
theorem dX4_farOf_3 : decode cX4_farOf 3 = .ok (.idiv, 1) := by decide +kernel
theorem dX4_farOf_4 : decode cX4_farOf 4 = .ok (.iload_n 1, 1) := by decide +kernel
theorem dX4_farOf_5 : decode cX4_farOf 5 = .ok (.bipush 6, 2) := by decide +kernel
theorem dX4_farOf_7 : decode cX4_farOf 7 = .ok (.idiv, 1) := by decide +kernel
theorem dX4_farOf_8 : decode cX4_farOf 8 = .ok (.invokestatic 48, 3) := by decide +kernel
theorem dX4_farOf_11 : decode cX4_farOf 11 = .ok (.iload_n 0, 1) := by decide +kernel
theorem dX4_farOf_12 : decode cX4_farOf 12 = .ok (.bipush 6, 2) := by decide +kernel
theorem dX4_farOf_14 : decode cX4_farOf 14 = .ok (.irem, 1) := by decide +kernel
theorem dX4_farOf_15 : decode cX4_farOf 15 = .ok (.iload_n 1, 1) := by decide +kernel
theorem dX4_farOf_16 : decode cX4_farOf 16 = .ok (.bipush 6, 2) := by decide +kernel
theorem dX4_farOf_18 : decode cX4_farOf 18 = .ok (.irem, 1) := by decide +kernel
theorem dX4_farOf_19 : decode cX4_farOf 19 = .ok (.invokestatic 48, 3) := by decide +kernel
theorem dX4_farOf_22 : decode cX4_farOf 22 = .ok (.iadd, 1) := by decide +kernel
theorem dX4_farOf_23 : decode cX4_farOf 23 = .ok (.ireturn, 1) := by decide +kernel
theorem dX4_letter_0 : decode cX4_letter 0 = .ok (.iload_n 1, 1) := by decide +kernel
theorem dX4_letter_1 : decode cX4_letter 1 = .ok (.iconst 0, 1) := by decide +kernel
theorem dX4_letter_2 : decode cX4_letter 2 = .ok (.sipush 255, 3) := by decide +kernel
theorem dX4_letter_5 : decode cX4_letter 5 = .ok (.invokestatic 52, 3) := by decide +kernel
theorem dX4_letter_8 : decode cX4_letter 8 = .ok (.istore_n 2, 1) := by decide +kernel
theorem dX4_letter_9 : decode cX4_letter 9 = .ok (.iload_n 2, 1) := by decide +kernel
theorem dX4_letter_10 : decode cX4_letter 10 = .ok (.ifCond .ne 15, 3) := by decide +kernel
theorem dX4_letter_13 : decode cX4_letter 13 = .ok (.aload_n 0, 1) := by decide +kernel
theorem dX4_letter_14 : decode cX4_letter 14 = .ok (.getfield 56, 3) := by decide +kernel
theorem dX4_letter_17 : decode cX4_letter 17 = .ok (.bipush 80, 2) := by decide +kernel
theorem dX4_letter_19 : decode cX4_letter 19 = .ok (.if_icmp .ne 6, 3) := by decide +kernel
theorem dX4_letter_22 : decode cX4_letter 22 = .ok (.bipush (-6), 2) := by decide +kernel
theorem dX4_letter_24 : decode cX4_letter 24 = .ok (.istore_n 2, 1) := by decide +kernel
theorem dX4_letter_25 : decode cX4_letter 25 = .ok (.iload_n 2, 1) := by decide +kernel
theorem dX4_letter_26 : decode cX4_letter 26 = .ok (.ifCond .eq 9, 3) := by decide +kernel
theorem dX4_letter_29 : decode cX4_letter 29 = .ok (.aload_n 0, 1) := by decide +kernel
theorem dX4_letter_30 : decode cX4_letter 30 = .ok (.iload_n 2, 1) := by decide +kernel
theorem dX4_letter_31 : decode cX4_letter 31 = .ok (.invokevirtual 60, 3) := by decide +kernel
theorem dX4_letter_34 : decode cX4_letter 34 = .ok (.ireturn, 1) := by decide +kernel
theorem dX4_letter_35 : decode cX4_letter 35 = .ok (.aload_n 0, 1) := by decide +kernel
theorem dX4_letter_36 : decode cX4_letter 36 = .ok (.getfield 19, 3) := by decide +kernel
theorem dX4_letter_39 : decode cX4_letter 39 = .ok (.aload_n 0, 1) := by decide +kernel
theorem dX4_letter_40 : decode cX4_letter 40 = .ok (.getfield 56, 3) := by decide +kernel
theorem dX4_letter_43 : decode cX4_letter 43 = .ok (.iload_n 1, 1) := by decide +kernel
theorem dX4_letter_44 : decode cX4_letter 44 = .ok (.iastore, 1) := by decide +kernel
theorem dX4_letter_45 : decode cX4_letter 45 = .ok (.aload_n 0, 1) := by decide +kernel
theorem dX4_letter_46 : decode cX4_letter 46 = .ok (.dup, 1) := by decide +kernel
theorem dX4_letter_47 : decode cX4_letter 47 = .ok (.getfield 56, 3) := by decide +kernel
theorem dX4_letter_50 : decode cX4_letter 50 = .ok (.iconst 1, 1) := by decide +kernel
theorem dX4_letter_51 : decode cX4_letter 51 = .ok (.iadd, 1) := by decide +kernel
theorem dX4_letter_52 : decode cX4_letter 52 = .ok (.putfield 56, 3) := by decide +kernel
theorem dX4_letter_55 : decode cX4_letter 55 = .ok (.aload_n 0, 1) := by decide +kernel
theorem dX4_letter_56 : decode cX4_letter 56 = .ok (.getfield 56, 3) := by decide +kernel
theorem dX4_letter_59 : decode cX4_letter 59 = .ok (.ireturn, 1) := by decide +kernel
theorem dX4_next_0 : decode cX4_next 0 = .ok (.aload_n 0, 1) := by decide +kernel
theorem dX4_next_1 : decode cX4_next 1 = .ok (.getfield 64, 3) := by decide +kernel
theorem dX4_next_4 : decode cX4_next 4 = .ok (.aload_n 0, 1) := by decide +kernel
theorem dX4_next_5 : decode cX4_next 5 = .ok (.getfield 56, 3) := by decide +kernel
theorem dX4_next_8 : decode cX4_next 8 = .ok (.if_icmp .ge 15, 3) := by decide +kernel
theorem dX4_next_11 : decode cX4_next 11 = .ok (.aload_n 0, 1) := by decide +kernel
theorem dX4_next_12 : decode cX4_next 12 = .ok (.getfield 19, 3) := by decide +kernel
theorem dX4_next_15 : decode cX4_next 15 = .ok (.aload_n 0, 1) := by decide +kernel
theorem dX4_next_16 : decode cX4_next 16 = .ok (.getfield 64, 3) := by decide +kernel
theorem dX4_next_19 : decode cX4_next 19 = .ok (.iaload, 1) := by decide +kernel
theorem dX4_next_20 : decode cX4_next 20 = .ok (.goto 4, 3) := by decide +kernel
theorem dX4_next_23 : decode cX4_next 23 = .ok (.iconst (-1), 1) := by decide +kernel
theorem dX4_next_24 : decode cX4_next 24 = .ok (.ireturn, 1) := by decide +kernel
theorem dX4_readsDigits_0 : decode cX4_readsDigits 0 = .ok (.iconst 0, 1) := by decide +kernel
theorem dX4_readsDigits_1 : decode cX4_readsDigits 1 = .ok (.istore_n 3, 1) := by decide +kernel
theorem dX4_readsDigits_2 : decode cX4_readsDigits 2 = .ok (.iconst 0, 1) := by decide +kernel
theorem dX4_readsDigits_3 : decode cX4_readsDigits 3 = .ok (.istore 4, 2) := by decide +kernel
theorem dX4_readsDigits_5 : decode cX4_readsDigits 5 = .ok (.iload 4, 2) := by decide +kernel
theorem dX4_readsDigits_7 : decode cX4_readsDigits 7 = .ok (.iload_n 2, 1) := by decide +kernel
theorem dX4_readsDigits_8 : decode cX4_readsDigits 8 = .ok (.if_icmp .ge 48, 3) := by decide +kernel
theorem dX4_readsDigits_11 : decode cX4_readsDigits 11 = .ok (.aload_n 0, 1) := by decide +kernel
theorem dX4_readsDigits_12 : decode cX4_readsDigits 12 = .ok (.invokevirtual 67, 3) := by decide +kernel
theorem dX4_readsDigits_15 : decode cX4_readsDigits 15 = .ok (.bipush 48, 2) := by decide +kernel
theorem dX4_readsDigits_17 : decode cX4_readsDigits 17 = .ok (.bipush 57, 2) := by decide +kernel
theorem dX4_readsDigits_19 : decode cX4_readsDigits 19 = .ok (.invokestatic 71, 3) := by decide +kernel
theorem dX4_readsDigits_22 : decode cX4_readsDigits 22 = .ok (.ifCond .ne 5, 3) := by decide +kernel
theorem dX4_readsDigits_25 : decode cX4_readsDigits 25 = .ok (.iconst 0, 1) := by decide +kernel
theorem dX4_readsDigits_26 : decode cX4_readsDigits 26 = .ok (.ireturn, 1) := by decide +kernel
theorem dX4_readsDigits_27 : decode cX4_readsDigits 27 = .ok (.bipush 10, 2) := by decide +kernel
theorem dX4_readsDigits_29 : decode cX4_readsDigits 29 = .ok (.iload_n 3, 1) := by decide +kernel
theorem dX4_readsDigits_30 : decode cX4_readsDigits 30 = .ok (.imul, 1) := by decide +kernel
theorem dX4_readsDigits_31 : decode cX4_readsDigits 31 = .ok (.aload_n 0, 1) := by decide +kernel
theorem dX4_readsDigits_32 : decode cX4_readsDigits 32 = .ok (.invokevirtual 67, 3) := by decide +kernel
theorem dX4_readsDigits_35 : decode cX4_readsDigits 35 = .ok (.iadd, 1) := by decide +kernel
theorem dX4_readsDigits_36 : decode cX4_readsDigits 36 = .ok (.bipush 48, 2) := by decide +kernel
theorem dX4_readsDigits_38 : decode cX4_readsDigits 38 = .ok (.isub, 1) := by decide +kernel
theorem dX4_readsDigits_39 : decode cX4_readsDigits 39 = .ok (.istore_n 3, 1) := by decide +kernel
theorem dX4_readsDigits_40 : decode cX4_readsDigits 40 = .ok (.aload_n 0, 1) := by decide +kernel
theorem dX4_readsDigits_41 : decode cX4_readsDigits 41 = .ok (.dup, 1) := by decide +kernel
theorem dX4_readsDigits_42 : decode cX4_readsDigits 42 = .ok (.getfield 64, 3) := by decide +kernel
theorem dX4_readsDigits_45 : decode cX4_readsDigits 45 = .ok (.iconst 1, 1) := by decide +kernel
theorem dX4_readsDigits_46 : decode cX4_readsDigits 46 = .ok (.iadd, 1) := by decide +kernel
theorem dX4_readsDigits_47 : decode cX4_readsDigits 47 = .ok (.putfield 64, 3) := by decide +kernel
theorem dX4_readsDigits_50 : decode cX4_readsDigits 50 = .ok (.iinc 4 1, 3) := by decide +kernel
theorem dX4_readsDigits_53 : decode cX4_readsDigits 53 = .ok (.goto (-48), 3) := by decide +kernel
theorem dX4_readsDigits_56 : decode cX4_readsDigits 56 = .ok (.aload_n 0, 1) := by decide +kernel
theorem dX4_readsDigits_57 : decode cX4_readsDigits 57 = .ok (.getfield 28, 3) := by decide +kernel
theorem dX4_readsDigits_60 : decode cX4_readsDigits 60 = .ok (.iload_n 1, 1) := by decide +kernel
theorem dX4_readsDigits_61 : decode cX4_readsDigits 61 = .ok (.iload_n 3, 1) := by decide +kernel
theorem dX4_readsDigits_62 : decode cX4_readsDigits 62 = .ok (.iastore, 1) := by decide +kernel
theorem dX4_readsDigits_63 : decode cX4_readsDigits 63 = .ok (.iconst 1, 1) := by decide +kernel
theorem dX4_readsDigits_64 : decode cX4_readsDigits 64 = .ok (.ireturn, 1) := by decide +kernel
theorem dX4_kindOf_0 : decode cX4_kindOf 0 = .ok (.iload_n 0, 1) := by decide +kernel
theorem dX4_kindOf_1 : decode cX4_kindOf 1 = .ok (.tableswitch 95 99 115 #[85, 95, 95, 89, 95, 87, 83, 95, 95, 95, 95, 93, 95, 95, 95, 95, 91], 83) := by decide +kernel
theorem dX4_kindOf_84 : decode cX4_kindOf 84 = .ok (.iconst 0, 1) := by decide +kernel
theorem dX4_kindOf_85 : decode cX4_kindOf 85 = .ok (.ireturn, 1) := by decide +kernel
theorem dX4_kindOf_86 : decode cX4_kindOf 86 = .ok (.iconst 1, 1) := by decide +kernel
theorem dX4_kindOf_87 : decode cX4_kindOf 87 = .ok (.ireturn, 1) := by decide +kernel
theorem dX4_kindOf_88 : decode cX4_kindOf 88 = .ok (.iconst 2, 1) := by decide +kernel
theorem dX4_kindOf_89 : decode cX4_kindOf 89 = .ok (.ireturn, 1) := by decide +kernel
theorem dX4_kindOf_90 : decode cX4_kindOf 90 = .ok (.iconst 3, 1) := by decide +kernel
theorem dX4_kindOf_91 : decode cX4_kindOf 91 = .ok (.ireturn, 1) := by decide +kernel
theorem dX4_kindOf_92 : decode cX4_kindOf 92 = .ok (.iconst 4, 1) := by decide +kernel
theorem dX4_kindOf_93 : decode cX4_kindOf 93 = .ok (.ireturn, 1) := by decide +kernel
theorem dX4_kindOf_94 : decode cX4_kindOf 94 = .ok (.iconst 5, 1) := by decide +kernel
theorem dX4_kindOf_95 : decode cX4_kindOf 95 = .ok (.ireturn, 1) := by decide +kernel
theorem dX4_kindOf_96 : decode cX4_kindOf 96 = .ok (.iconst (-1), 1) := by decide +kernel
theorem dX4_kindOf_97 : decode cX4_kindOf 97 = .ok (.ireturn, 1) := by decide +kernel
theorem dX4_readsItch_0 : decode cX4_readsItch 0 = .ok (.aload_n 0, 1) := by decide +kernel
theorem dX4_readsItch_1 : decode cX4_readsItch 1 = .ok (.getfield 28, 3) := by decide +kernel
theorem dX4_readsItch_4 : decode cX4_readsItch 4 = .ok (.iload_n 1, 1) := by decide +kernel
theorem dX4_readsItch_5 : decode cX4_readsItch 5 = .ok (.aload_n 0, 1) := by decide +kernel
theorem dX4_readsItch_6 : decode cX4_readsItch 6 = .ok (.invokevirtual 67, 3) := by decide +kernel
theorem dX4_readsItch_9 : decode cX4_readsItch 9 = .ok (.invokestatic 75, 3) := by decide +kernel
theorem dX4_readsItch_12 : decode cX4_readsItch 12 = .ok (.iastore, 1) := by decide +kernel
theorem dX4_readsItch_13 : decode cX4_readsItch 13 = .ok (.aload_n 0, 1) := by decide +kernel
theorem dX4_readsItch_14 : decode cX4_readsItch 14 = .ok (.getfield 28, 3) := by decide +kernel
theorem dX4_readsItch_17 : decode cX4_readsItch 17 = .ok (.iload_n 1, 1) := by decide +kernel
theorem dX4_readsItch_18 : decode cX4_readsItch 18 = .ok (.iaload, 1) := by decide +kernel
theorem dX4_readsItch_19 : decode cX4_readsItch 19 = .ok (.ifCond .ge 5, 3) := by decide +kernel
theorem dX4_readsItch_22 : decode cX4_readsItch 22 = .ok (.iconst 0, 1) := by decide +kernel
theorem dX4_readsItch_23 : decode cX4_readsItch 23 = .ok (.ireturn, 1) := by decide +kernel
theorem dX4_readsItch_24 : decode cX4_readsItch 24 = .ok (.aload_n 0, 1) := by decide +kernel
theorem dX4_readsItch_25 : decode cX4_readsItch 25 = .ok (.dup, 1) := by decide +kernel
theorem dX4_readsItch_26 : decode cX4_readsItch 26 = .ok (.getfield 64, 3) := by decide +kernel
theorem dX4_readsItch_29 : decode cX4_readsItch 29 = .ok (.iconst 1, 1) := by decide +kernel
theorem dX4_readsItch_30 : decode cX4_readsItch 30 = .ok (.iadd, 1) := by decide +kernel
theorem dX4_readsItch_31 : decode cX4_readsItch 31 = .ok (.putfield 64, 3) := by decide +kernel
theorem dX4_readsItch_34 : decode cX4_readsItch 34 = .ok (.aload_n 0, 1) := by decide +kernel
theorem dX4_readsItch_35 : decode cX4_readsItch 35 = .ok (.iload_n 1, 1) := by decide +kernel
theorem dX4_readsItch_36 : decode cX4_readsItch 36 = .ok (.iconst 1, 1) := by decide +kernel
theorem dX4_readsItch_37 : decode cX4_readsItch 37 = .ok (.iadd, 1) := by decide +kernel
theorem dX4_readsItch_38 : decode cX4_readsItch 38 = .ok (.iconst 2, 1) := by decide +kernel
theorem dX4_readsItch_39 : decode cX4_readsItch 39 = .ok (.invokevirtual 78, 3) := by decide +kernel
theorem dX4_readsItch_42 : decode cX4_readsItch 42 = .ok (.ireturn, 1) := by decide +kernel
theorem dX4_readsAll_0 : decode cX4_readsAll 0 = .ok (.iload_n 1, 1) := by decide +kernel
theorem dX4_readsAll_1 : decode cX4_readsAll 1 = .ok (.lookupswitch 100 #[(104, 49), (105, 43), (109, 86), (115, 93)], 43) := by decide +kernel
theorem dX4_readsAll_44 : decode cX4_readsAll 44 = .ok (.aload_n 0, 1) := by decide +kernel
theorem dX4_readsAll_45 : decode cX4_readsAll 45 = .ok (.iload_n 2, 1) := by decide +kernel
theorem dX4_readsAll_46 : decode cX4_readsAll 46 = .ok (.invokevirtual 82, 3) := by decide +kernel
theorem dX4_readsAll_49 : decode cX4_readsAll 49 = .ok (.ireturn, 1) := by decide +kernel
theorem dX4_readsAll_50 : decode cX4_readsAll 50 = .ok (.aload_n 0, 1) := by decide +kernel
theorem dX4_readsAll_51 : decode cX4_readsAll 51 = .ok (.iload_n 2, 1) := by decide +kernel
theorem dX4_readsAll_52 : decode cX4_readsAll 52 = .ok (.iconst 1, 1) := by decide +kernel
theorem dX4_readsAll_53 : decode cX4_readsAll 53 = .ok (.invokevirtual 78, 3) := by decide +kernel
theorem dX4_readsAll_56 : decode cX4_readsAll 56 = .ok (.ifCond .eq 29, 3) := by decide +kernel
theorem dX4_readsAll_59 : decode cX4_readsAll 59 = .ok (.aload_n 0, 1) := by decide +kernel
theorem dX4_readsAll_60 : decode cX4_readsAll 60 = .ok (.iload_n 2, 1) := by decide +kernel
theorem dX4_readsAll_61 : decode cX4_readsAll 61 = .ok (.iconst 1, 1) := by decide +kernel
theorem dX4_readsAll_62 : decode cX4_readsAll 62 = .ok (.iadd, 1) := by decide +kernel
theorem dX4_readsAll_63 : decode cX4_readsAll 63 = .ok (.iconst 1, 1) := by decide +kernel
theorem dX4_readsAll_64 : decode cX4_readsAll 64 = .ok (.invokevirtual 78, 3) := by decide +kernel
theorem dX4_readsAll_67 : decode cX4_readsAll 67 = .ok (.ifCond .eq 18, 3) := by decide +kernel
theorem dX4_readsAll_70 : decode cX4_readsAll 70 = .ok (.aload_n 0, 1) := by decide +kernel
theorem dX4_readsAll_71 : decode cX4_readsAll 71 = .ok (.iload_n 2, 1) := by decide +kernel
theorem dX4_readsAll_72 : decode cX4_readsAll 72 = .ok (.iconst 2, 1) := by decide +kernel
theorem dX4_readsAll_73 : decode cX4_readsAll 73 = .ok (.iadd, 1) := by decide +kernel
theorem dX4_readsAll_74 : decode cX4_readsAll 74 = .ok (.iconst 1, 1) := by decide +kernel
theorem dX4_readsAll_75 : decode cX4_readsAll 75 = .ok (.invokevirtual 78, 3) := by decide +kernel
theorem dX4_readsAll_78 : decode cX4_readsAll 78 = .ok (.ifCond .eq 7, 3) := by decide +kernel
theorem dX4_readsAll_81 : decode cX4_readsAll 81 = .ok (.iconst 1, 1) := by decide +kernel
theorem dX4_readsAll_82 : decode cX4_readsAll 82 = .ok (.goto 4, 3) := by decide +kernel
theorem dX4_readsAll_85 : decode cX4_readsAll 85 = .ok (.iconst 0, 1) := by decide +kernel
theorem dX4_readsAll_86 : decode cX4_readsAll 86 = .ok (.ireturn, 1) := by decide +kernel
theorem dX4_readsAll_87 : decode cX4_readsAll 87 = .ok (.aload_n 0, 1) := by decide +kernel
theorem dX4_readsAll_88 : decode cX4_readsAll 88 = .ok (.iload_n 2, 1) := by decide +kernel
theorem dX4_readsAll_89 : decode cX4_readsAll 89 = .ok (.iconst 1, 1) := by decide +kernel
theorem dX4_readsAll_90 : decode cX4_readsAll 90 = .ok (.invokevirtual 78, 3) := by decide +kernel
theorem dX4_readsAll_93 : decode cX4_readsAll 93 = .ok (.ireturn, 1) := by decide +kernel
theorem dX4_readsAll_94 : decode cX4_readsAll 94 = .ok (.aload_n 0, 1) := by decide +kernel
theorem dX4_readsAll_95 : decode cX4_readsAll 95 = .ok (.iload_n 2, 1) := by decide +kernel
theorem dX4_readsAll_96 : decode cX4_readsAll 96 = .ok (.iconst 2, 1) := by decide +kernel
theorem dX4_readsAll_97 : decode cX4_readsAll 97 = .ok (.invokevirtual 78, 3) := by decide +kernel
theorem dX4_readsAll_100 : decode cX4_readsAll 100 = .ok (.ireturn, 1) := by decide +kernel
theorem dX4_readsAll_101 : decode cX4_readsAll 101 = .ok (.aload_n 0, 1) := by decide +kernel
theorem dX4_readsAll_102 : decode cX4_readsAll 102 = .ok (.iload_n 2, 1) := by decide +kernel
theorem dX4_readsAll_103 : decode cX4_readsAll 103 = .ok (.iconst 2, 1) := by decide +kernel
theorem dX4_readsAll_104 : decode cX4_readsAll 104 = .ok (.invokevirtual 78, 3) := by decide +kernel
theorem dX4_readsAll_107 : decode cX4_readsAll 107 = .ok (.ifCond .eq 18, 3) := by decide +kernel
theorem dX4_readsAll_110 : decode cX4_readsAll 110 = .ok (.aload_n 0, 1) := by decide +kernel
theorem dX4_readsAll_111 : decode cX4_readsAll 111 = .ok (.iload_n 2, 1) := by decide +kernel
theorem dX4_readsAll_112 : decode cX4_readsAll 112 = .ok (.iconst 1, 1) := by decide +kernel
theorem dX4_readsAll_113 : decode cX4_readsAll 113 = .ok (.iadd, 1) := by decide +kernel
theorem dX4_readsAll_114 : decode cX4_readsAll 114 = .ok (.iconst 1, 1) := by decide +kernel
theorem dX4_readsAll_115 : decode cX4_readsAll 115 = .ok (.invokevirtual 78, 3) := by decide +kernel
theorem dX4_readsAll_118 : decode cX4_readsAll 118 = .ok (.ifCond .eq 7, 3) := by decide +kernel
theorem dX4_readsAll_121 : decode cX4_readsAll 121 = .ok (.iconst 1, 1) := by decide +kernel
theorem dX4_readsAll_122 : decode cX4_readsAll 122 = .ok (.goto 4, 3) := by decide +kernel
theorem dX4_readsAll_125 : decode cX4_readsAll 125 = .ok (.iconst 0, 1) := by decide +kernel
theorem dX4_readsAll_126 : decode cX4_readsAll 126 = .ok (.ireturn, 1) := by decide +kernel
theorem dX4_statement_0 : decode cX4_statement 0 = .ok (.aload_n 0, 1) := by decide +kernel
theorem dX4_statement_1 : decode cX4_statement 1 = .ok (.invokevirtual 67, 3) := by decide +kernel
theorem dX4_statement_4 : decode cX4_statement 4 = .ok (.istore_n 1, 1) := by decide +kernel
theorem dX4_statement_5 : decode cX4_statement 5 = .ok (.iload_n 1, 1) := by decide +kernel
theorem dX4_statement_6 : decode cX4_statement 6 = .ok (.bipush 105, 2) := by decide +kernel
theorem dX4_statement_8 : decode cX4_statement 8 = .ok (.if_icmp .eq 29, 3) := by decide +kernel
theorem dX4_statement_11 : decode cX4_statement 11 = .ok (.iload_n 1, 1) := by decide +kernel
theorem dX4_statement_12 : decode cX4_statement 12 = .ok (.bipush 104, 2) := by decide +kernel
theorem dX4_statement_14 : decode cX4_statement 14 = .ok (.if_icmp .eq 23, 3) := by decide +kernel
theorem dX4_statement_17 : decode cX4_statement 17 = .ok (.iload_n 1, 1) := by decide +kernel
theorem dX4_statement_18 : decode cX4_statement 18 = .ok (.bipush 109, 2) := by decide +kernel
theorem dX4_statement_20 : decode cX4_statement 20 = .ok (.if_icmp .eq 17, 3) := by decide +kernel
theorem dX4_statement_23 : decode cX4_statement 23 = .ok (.iload_n 1, 1) := by decide +kernel
theorem dX4_statement_24 : decode cX4_statement 24 = .ok (.bipush 115, 2) := by decide +kernel
theorem dX4_statement_26 : decode cX4_statement 26 = .ok (.if_icmp .eq 11, 3) := by decide +kernel
theorem dX4_statement_29 : decode cX4_statement 29 = .ok (.iload_n 1, 1) := by decide +kernel
theorem dX4_statement_30 : decode cX4_statement 30 = .ok (.bipush 111, 2) := by decide +kernel
theorem dX4_statement_32 : decode cX4_statement 32 = .ok (.if_icmp .eq 5, 3) := by decide +kernel
theorem dX4_statement_35 : decode cX4_statement 35 = .ok (.iconst 0, 1) := by decide +kernel
theorem dX4_statement_36 : decode cX4_statement 36 = .ok (.ireturn, 1) := by decide +kernel
theorem dX4_statement_37 : decode cX4_statement 37 = .ok (.aload_n 0, 1) := by decide +kernel
theorem dX4_statement_38 : decode cX4_statement 38 = .ok (.getfield 22, 3) := by decide +kernel
theorem dX4_statement_41 : decode cX4_statement 41 = .ok (.aload_n 0, 1) := by decide +kernel
theorem dX4_statement_42 : decode cX4_statement 42 = .ok (.getfield 86, 3) := by decide +kernel
theorem dX4_statement_45 : decode cX4_statement 45 = .ok (.iload_n 1, 1) := by decide +kernel
theorem dX4_statement_46 : decode cX4_statement 46 = .ok (.iastore, 1) := by decide +kernel
theorem dX4_statement_47 : decode cX4_statement 47 = .ok (.aload_n 0, 1) := by decide +kernel
theorem dX4_statement_48 : decode cX4_statement 48 = .ok (.getfield 25, 3) := by decide +kernel
theorem dX4_statement_51 : decode cX4_statement 51 = .ok (.aload_n 0, 1) := by decide +kernel
theorem dX4_statement_52 : decode cX4_statement 52 = .ok (.getfield 86, 3) := by decide +kernel
theorem dX4_statement_55 : decode cX4_statement 55 = .ok (.aload_n 0, 1) := by decide +kernel
theorem dX4_statement_56 : decode cX4_statement 56 = .ok (.getfield 64, 3) := by decide +kernel
theorem dX4_statement_59 : decode cX4_statement 59 = .ok (.iastore, 1) := by decide +kernel
theorem dX4_statement_60 : decode cX4_statement 60 = .ok (.aload_n 0, 1) := by decide +kernel
theorem dX4_statement_61 : decode cX4_statement 61 = .ok (.dup, 1) := by decide +kernel
theorem dX4_statement_62 : decode cX4_statement 62 = .ok (.getfield 64, 3) := by decide +kernel
theorem dX4_statement_65 : decode cX4_statement 65 = .ok (.iconst 1, 1) := by decide +kernel
theorem dX4_statement_66 : decode cX4_statement 66 = .ok (.iadd, 1) := by decide +kernel
theorem dX4_statement_67 : decode cX4_statement 67 = .ok (.putfield 64, 3) := by decide +kernel
theorem dX4_statement_70 : decode cX4_statement 70 = .ok (.aload_n 0, 1) := by decide +kernel
theorem dX4_statement_71 : decode cX4_statement 71 = .ok (.iload_n 1, 1) := by decide +kernel
theorem dX4_statement_72 : decode cX4_statement 72 = .ok (.iconst 3, 1) := by decide +kernel
theorem dX4_statement_73 : decode cX4_statement 73 = .ok (.aload_n 0, 1) := by decide +kernel
theorem dX4_statement_74 : decode cX4_statement 74 = .ok (.getfield 86, 3) := by decide +kernel
theorem dX4_statement_77 : decode cX4_statement 77 = .ok (.imul, 1) := by decide +kernel
theorem dX4_statement_78 : decode cX4_statement 78 = .ok (.invokevirtual 89, 3) := by decide +kernel
theorem dX4_statement_81 : decode cX4_statement 81 = .ok (.ifCond .eq 12, 3) := by decide +kernel
theorem dX4_statement_84 : decode cX4_statement 84 = .ok (.aload_n 0, 1) := by decide +kernel
theorem dX4_statement_85 : decode cX4_statement 85 = .ok (.invokevirtual 67, 3) := by decide +kernel
theorem dX4_statement_88 : decode cX4_statement 88 = .ok (.bipush 59, 2) := by decide +kernel
theorem dX4_statement_90 : decode cX4_statement 90 = .ok (.if_icmp .eq 5, 3) := by decide +kernel
theorem dX4_statement_93 : decode cX4_statement 93 = .ok (.iconst 0, 1) := by decide +kernel
theorem dX4_statement_94 : decode cX4_statement 94 = .ok (.ireturn, 1) := by decide +kernel
theorem dX4_statement_95 : decode cX4_statement 95 = .ok (.aload_n 0, 1) := by decide +kernel
theorem dX4_statement_96 : decode cX4_statement 96 = .ok (.dup, 1) := by decide +kernel
theorem dX4_statement_97 : decode cX4_statement 97 = .ok (.getfield 64, 3) := by decide +kernel
theorem dX4_statement_100 : decode cX4_statement 100 = .ok (.iconst 1, 1) := by decide +kernel
theorem dX4_statement_101 : decode cX4_statement 101 = .ok (.iadd, 1) := by decide +kernel
theorem dX4_statement_102 : decode cX4_statement 102 = .ok (.putfield 64, 3) := by decide +kernel
theorem dX4_statement_105 : decode cX4_statement 105 = .ok (.iconst 1, 1) := by decide +kernel
theorem dX4_statement_106 : decode cX4_statement 106 = .ok (.ireturn, 1) := by decide +kernel
theorem dX4_leastOf_0 : decode cX4_leastOf 0 = .ok (.iload_n 0, 1) := by decide +kernel
theorem dX4_leastOf_1 : decode cX4_leastOf 1 = .ok (.iconst 1, 1) := by decide +kernel
theorem dX4_leastOf_2 : decode cX4_leastOf 2 = .ok (.if_icmp .ne 7, 3) := by decide +kernel
theorem dX4_leastOf_5 : decode cX4_leastOf 5 = .ok (.iconst 1, 1) := by decide +kernel
theorem dX4_leastOf_6 : decode cX4_leastOf 6 = .ok (.goto 13, 3) := by decide +kernel
theorem dX4_leastOf_9 : decode cX4_leastOf 9 = .ok (.iload_n 0, 1) := by decide +kernel
theorem dX4_leastOf_10 : decode cX4_leastOf 10 = .ok (.iconst 2, 1) := by decide +kernel
theorem dX4_leastOf_11 : decode cX4_leastOf 11 = .ok (.if_icmp .ne 7, 3) := by decide +kernel
theorem dX4_leastOf_14 : decode cX4_leastOf 14 = .ok (.iconst 2, 1) := by decide +kernel
theorem dX4_leastOf_15 : decode cX4_leastOf 15 = .ok (.goto 4, 3) := by decide +kernel
theorem dX4_leastOf_18 : decode cX4_leastOf 18 = .ok (.iconst 0, 1) := by decide +kernel
theorem dX4_leastOf_19 : decode cX4_leastOf 19 = .ok (.ireturn, 1) := by decide +kernel
theorem dX4_mostOf_0 : decode cX4_mostOf 0 = .ok (.iload_n 0, 1) := by decide +kernel
theorem dX4_mostOf_1 : decode cX4_mostOf 1 = .ok (.ifCond .ne 7, 3) := by decide +kernel
theorem dX4_mostOf_4 : decode cX4_mostOf 4 = .ok (.iconst 1, 1) := by decide +kernel
theorem dX4_mostOf_5 : decode cX4_mostOf 5 = .ok (.goto 13, 3) := by decide +kernel
theorem dX4_mostOf_8 : decode cX4_mostOf 8 = .ok (.iload_n 0, 1) := by decide +kernel
theorem dX4_mostOf_9 : decode cX4_mostOf 9 = .ok (.iconst 1, 1) := by decide +kernel
theorem dX4_mostOf_10 : decode cX4_mostOf 10 = .ok (.if_icmp .ne 7, 3) := by decide +kernel
theorem dX4_mostOf_13 : decode cX4_mostOf 13 = .ok (.iconst 3, 1) := by decide +kernel
theorem dX4_mostOf_14 : decode cX4_mostOf 14 = .ok (.goto 4, 3) := by decide +kernel
theorem dX4_mostOf_17 : decode cX4_mostOf 17 = .ok (.iconst 5, 1) := by decide +kernel
theorem dX4_mostOf_18 : decode cX4_mostOf 18 = .ok (.ireturn, 1) := by decide +kernel
theorem dX4_comesHe_0 : decode cX4_comesHe 0 = .ok (.iconst 0, 1) := by decide +kernel
theorem dX4_comesHe_1 : decode cX4_comesHe 1 = .ok (.istore_n 2, 1) := by decide +kernel
theorem dX4_comesHe_2 : decode cX4_comesHe 2 = .ok (.iload_n 2, 1) := by decide +kernel
theorem dX4_comesHe_3 : decode cX4_comesHe 3 = .ok (.iconst 3, 1) := by decide +kernel
theorem dX4_comesHe_4 : decode cX4_comesHe 4 = .ok (.if_icmp .ge 47, 3) := by decide +kernel
theorem dX4_comesHe_7 : decode cX4_comesHe 7 = .ok (.aload_n 0, 1) := by decide +kernel
theorem dX4_comesHe_8 : decode cX4_comesHe 8 = .ok (.getfield 28, 3) := by decide +kernel
theorem dX4_comesHe_11 : decode cX4_comesHe 11 = .ok (.iload_n 1, 1) := by decide +kernel
theorem dX4_comesHe_12 : decode cX4_comesHe 12 = .ok (.iload_n 2, 1) := by decide +kernel
theorem dX4_comesHe_13 : decode cX4_comesHe 13 = .ok (.iadd, 1) := by decide +kernel
theorem dX4_comesHe_14 : decode cX4_comesHe 14 = .ok (.iaload, 1) := by decide +kernel
theorem dX4_comesHe_15 : decode cX4_comesHe 15 = .ok (.iload_n 2, 1) := by decide +kernel
theorem dX4_comesHe_16 : decode cX4_comesHe 16 = .ok (.invokestatic 92, 3) := by decide +kernel
theorem dX4_comesHe_19 : decode cX4_comesHe 19 = .ok (.iload_n 2, 1) := by decide +kernel
theorem dX4_comesHe_20 : decode cX4_comesHe 20 = .ok (.invokestatic 95, 3) := by decide +kernel
theorem dX4_comesHe_23 : decode cX4_comesHe 23 = .ok (.invokestatic 52, 3) := by decide +kernel
theorem dX4_comesHe_26 : decode cX4_comesHe 26 = .ok (.ifCond .eq 5, 3) := by decide +kernel
theorem dX4_comesHe_29 : decode cX4_comesHe 29 = .ok (.iconst 0, 1) := by decide +kernel
theorem dX4_comesHe_30 : decode cX4_comesHe 30 = .ok (.ireturn, 1) := by decide +kernel
theorem dX4_comesHe_31 : decode cX4_comesHe 31 = .ok (.aload_n 0, 1) := by decide +kernel
theorem dX4_comesHe_32 : decode cX4_comesHe 32 = .ok (.getfield 16, 3) := by decide +kernel
theorem dX4_comesHe_35 : decode cX4_comesHe 35 = .ok (.iload_n 2, 1) := by decide +kernel
theorem dX4_comesHe_36 : decode cX4_comesHe 36 = .ok (.aload_n 0, 1) := by decide +kernel
theorem dX4_comesHe_37 : decode cX4_comesHe 37 = .ok (.getfield 28, 3) := by decide +kernel
theorem dX4_comesHe_40 : decode cX4_comesHe 40 = .ok (.iload_n 1, 1) := by decide +kernel
theorem dX4_comesHe_41 : decode cX4_comesHe 41 = .ok (.iload_n 2, 1) := by decide +kernel
theorem dX4_comesHe_42 : decode cX4_comesHe 42 = .ok (.iadd, 1) := by decide +kernel
theorem dX4_comesHe_43 : decode cX4_comesHe 43 = .ok (.iaload, 1) := by decide +kernel
theorem dX4_comesHe_44 : decode cX4_comesHe 44 = .ok (.iastore, 1) := by decide +kernel
theorem dX4_comesHe_45 : decode cX4_comesHe 45 = .ok (.iinc 2 1, 3) := by decide +kernel
theorem dX4_comesHe_48 : decode cX4_comesHe 48 = .ok (.goto (-46), 3) := by decide +kernel
theorem dX4_comesHe_51 : decode cX4_comesHe 51 = .ok (.iconst 1, 1) := by decide +kernel
theorem dX4_comesHe_52 : decode cX4_comesHe 52 = .ok (.ireturn, 1) := by decide +kernel
theorem dX4_comes_0 : decode cX4_comes 0 = .ok (.iconst 3, 1) := by decide +kernel
theorem dX4_comes_1 : decode cX4_comes 1 = .ok (.iload_n 1, 1) := by decide +kernel
theorem dX4_comes_2 : decode cX4_comes 2 = .ok (.imul, 1) := by decide +kernel
theorem dX4_comes_3 : decode cX4_comes 3 = .ok (.istore_n 2, 1) := by decide +kernel
theorem dX4_comes_4 : decode cX4_comes 4 = .ok (.aload_n 0, 1) := by decide +kernel
theorem dX4_comes_5 : decode cX4_comes 5 = .ok (.getfield 22, 3) := by decide +kernel
theorem dX4_comes_8 : decode cX4_comes 8 = .ok (.iload_n 1, 1) := by decide +kernel
theorem dX4_comes_9 : decode cX4_comes 9 = .ok (.iaload, 1) := by decide +kernel
theorem dX4_comes_10 : decode cX4_comes 10 = .ok (.lookupswitch 143 #[(104, 72), (105, 42), (109, 78), (115, 107)], 42) := by decide +kernel
theorem dX4_comes_52 : decode cX4_comes 52 = .ok (.aload_n 0, 1) := by decide +kernel
theorem dX4_comes_53 : decode cX4_comes 53 = .ok (.aload_n 0, 1) := by decide +kernel
theorem dX4_comes_54 : decode cX4_comes 54 = .ok (.getfield 28, 3) := by decide +kernel
theorem dX4_comes_57 : decode cX4_comes 57 = .ok (.iload_n 2, 1) := by decide +kernel
theorem dX4_comes_58 : decode cX4_comes 58 = .ok (.iaload, 1) := by decide +kernel
theorem dX4_comes_59 : decode cX4_comes 59 = .ok (.putfield 98, 3) := by decide +kernel
theorem dX4_comes_62 : decode cX4_comes 62 = .ok (.aload_n 0, 1) := by decide +kernel
theorem dX4_comes_63 : decode cX4_comes 63 = .ok (.aload_n 0, 1) := by decide +kernel
theorem dX4_comes_64 : decode cX4_comes 64 = .ok (.getfield 28, 3) := by decide +kernel
theorem dX4_comes_67 : decode cX4_comes 67 = .ok (.iload_n 2, 1) := by decide +kernel
theorem dX4_comes_68 : decode cX4_comes 68 = .ok (.iconst 1, 1) := by decide +kernel
theorem dX4_comes_69 : decode cX4_comes 69 = .ok (.iadd, 1) := by decide +kernel
theorem dX4_comes_70 : decode cX4_comes 70 = .ok (.iaload, 1) := by decide +kernel
theorem dX4_comes_71 : decode cX4_comes 71 = .ok (.putfield 101, 3) := by decide +kernel
theorem dX4_comes_74 : decode cX4_comes 74 = .ok (.aload_n 0, 1) := by decide +kernel
theorem dX4_comes_75 : decode cX4_comes 75 = .ok (.getfield 101, 3) := by decide +kernel
theorem dX4_comes_78 : decode cX4_comes 78 = .ok (.invokestatic 104, 3) := by decide +kernel
theorem dX4_comes_81 : decode cX4_comes 81 = .ok (.ireturn, 1) := by decide +kernel
theorem dX4_comes_82 : decode cX4_comes 82 = .ok (.aload_n 0, 1) := by decide +kernel
theorem dX4_comes_83 : decode cX4_comes 83 = .ok (.iload_n 2, 1) := by decide +kernel
theorem dX4_comes_84 : decode cX4_comes 84 = .ok (.invokevirtual 107, 3) := by decide +kernel
theorem dX4_comes_87 : decode cX4_comes 87 = .ok (.ireturn, 1) := by decide +kernel
theorem dX4_comes_88 : decode cX4_comes 88 = .ok (.aload_n 0, 1) := by decide +kernel
theorem dX4_comes_89 : decode cX4_comes 89 = .ok (.getfield 16, 3) := by decide +kernel
theorem dX4_comes_92 : decode cX4_comes 92 = .ok (.iconst 3, 1) := by decide +kernel
theorem dX4_comes_93 : decode cX4_comes 93 = .ok (.aload_n 0, 1) := by decide +kernel
theorem dX4_comes_94 : decode cX4_comes 94 = .ok (.getfield 28, 3) := by decide +kernel
theorem dX4_comes_97 : decode cX4_comes 97 = .ok (.iload_n 2, 1) := by decide +kernel
theorem dX4_comes_98 : decode cX4_comes 98 = .ok (.iaload, 1) := by decide +kernel
theorem dX4_comes_99 : decode cX4_comes 99 = .ok (.iastore, 1) := by decide +kernel
theorem dX4_comes_100 : decode cX4_comes 100 = .ok (.aload_n 0, 1) := by decide +kernel
theorem dX4_comes_101 : decode cX4_comes 101 = .ok (.getfield 28, 3) := by decide +kernel
theorem dX4_comes_104 : decode cX4_comes 104 = .ok (.iload_n 2, 1) := by decide +kernel
theorem dX4_comes_105 : decode cX4_comes 105 = .ok (.iaload, 1) := by decide +kernel
theorem dX4_comes_106 : decode cX4_comes 106 = .ok (.bipush 6, 2) := by decide +kernel
theorem dX4_comes_108 : decode cX4_comes 108 = .ok (.if_icmp .ge 7, 3) := by decide +kernel
theorem dX4_comes_111 : decode cX4_comes 111 = .ok (.iconst 1, 1) := by decide +kernel
theorem dX4_comes_112 : decode cX4_comes 112 = .ok (.goto 4, 3) := by decide +kernel
theorem dX4_comes_115 : decode cX4_comes 115 = .ok (.iconst 0, 1) := by decide +kernel
theorem dX4_comes_116 : decode cX4_comes 116 = .ok (.ireturn, 1) := by decide +kernel
theorem dX4_comes_117 : decode cX4_comes 117 = .ok (.aload_n 0, 1) := by decide +kernel
theorem dX4_comes_118 : decode cX4_comes 118 = .ok (.getfield 28, 3) := by decide +kernel
theorem dX4_comes_121 : decode cX4_comes 121 = .ok (.iload_n 2, 1) := by decide +kernel
theorem dX4_comes_122 : decode cX4_comes 122 = .ok (.iaload, 1) := by decide +kernel
theorem dX4_comes_123 : decode cX4_comes 123 = .ok (.invokestatic 104, 3) := by decide +kernel
theorem dX4_comes_126 : decode cX4_comes 126 = .ok (.ifCond .eq 13, 3) := by decide +kernel
theorem dX4_comes_129 : decode cX4_comes 129 = .ok (.aload_n 0, 1) := by decide +kernel
theorem dX4_comes_130 : decode cX4_comes 130 = .ok (.getfield 110, 3) := by decide +kernel
theorem dX4_comes_133 : decode cX4_comes 133 = .ok (.sipush 999, 3) := by decide +kernel
theorem dX4_comes_136 : decode cX4_comes 136 = .ok (.if_icmp .ne 5, 3) := by decide +kernel
theorem dX4_comes_139 : decode cX4_comes 139 = .ok (.iconst 0, 1) := by decide +kernel
theorem dX4_comes_140 : decode cX4_comes 140 = .ok (.ireturn, 1) := by decide +kernel
theorem dX4_comes_141 : decode cX4_comes 141 = .ok (.aload_n 0, 1) := by decide +kernel
theorem dX4_comes_142 : decode cX4_comes 142 = .ok (.aload_n 0, 1) := by decide +kernel
theorem dX4_comes_143 : decode cX4_comes 143 = .ok (.getfield 28, 3) := by decide +kernel
theorem dX4_comes_146 : decode cX4_comes 146 = .ok (.iload_n 2, 1) := by decide +kernel
theorem dX4_comes_147 : decode cX4_comes 147 = .ok (.iaload, 1) := by decide +kernel
theorem dX4_comes_148 : decode cX4_comes 148 = .ok (.invokevirtual 113, 3) := by decide +kernel
theorem dX4_comes_151 : decode cX4_comes 151 = .ok (.iconst 1, 1) := by decide +kernel
theorem dX4_comes_152 : decode cX4_comes 152 = .ok (.ireturn, 1) := by decide +kernel
theorem dX4_comes_153 : decode cX4_comes 153 = .ok (.aload_n 0, 1) := by decide +kernel
theorem dX4_comes_154 : decode cX4_comes 154 = .ok (.getfield 28, 3) := by decide +kernel
theorem dX4_comes_157 : decode cX4_comes 157 = .ok (.iload_n 2, 1) := by decide +kernel
theorem dX4_comes_158 : decode cX4_comes 158 = .ok (.iaload, 1) := by decide +kernel
theorem dX4_comes_159 : decode cX4_comes 159 = .ok (.invokestatic 104, 3) := by decide +kernel
theorem dX4_comes_162 : decode cX4_comes 162 = .ok (.ifCond .ne 5, 3) := by decide +kernel
theorem dX4_comes_165 : decode cX4_comes 165 = .ok (.iconst 0, 1) := by decide +kernel
theorem dX4_comes_166 : decode cX4_comes 166 = .ok (.ireturn, 1) := by decide +kernel
theorem dX4_comes_167 : decode cX4_comes 167 = .ok (.aload_n 0, 1) := by decide +kernel
theorem dX4_comes_168 : decode cX4_comes 168 = .ok (.getfield 13, 3) := by decide +kernel
theorem dX4_comes_171 : decode cX4_comes 171 = .ok (.aload_n 0, 1) := by decide +kernel
theorem dX4_comes_172 : decode cX4_comes 172 = .ok (.getfield 28, 3) := by decide +kernel
theorem dX4_comes_175 : decode cX4_comes 175 = .ok (.iload_n 2, 1) := by decide +kernel
theorem dX4_comes_176 : decode cX4_comes 176 = .ok (.iaload, 1) := by decide +kernel
theorem dX4_comes_177 : decode cX4_comes 177 = .ok (.aload_n 0, 1) := by decide +kernel
theorem dX4_comes_178 : decode cX4_comes 178 = .ok (.getfield 28, 3) := by decide +kernel
theorem dX4_comes_181 : decode cX4_comes 181 = .ok (.iload_n 2, 1) := by decide +kernel
theorem dX4_comes_182 : decode cX4_comes 182 = .ok (.iconst 1, 1) := by decide +kernel
theorem dX4_comes_183 : decode cX4_comes 183 = .ok (.iadd, 1) := by decide +kernel
theorem dX4_comes_184 : decode cX4_comes 184 = .ok (.iaload, 1) := by decide +kernel
theorem dX4_comes_185 : decode cX4_comes 185 = .ok (.iastore, 1) := by decide +kernel
theorem dX4_comes_186 : decode cX4_comes 186 = .ok (.iconst 1, 1) := by decide +kernel
theorem dX4_comes_187 : decode cX4_comes 187 = .ok (.ireturn, 1) := by decide +kernel
theorem dX4_back_0 : decode cX4_back 0 = .ok (.aload_n 0, 1) := by decide +kernel
