theorem dX13_undo_50 : decode cX13_undo 50 = .ok (.iaload, 1) := by decide +kernel
theorem dX13_undo_51 : decode cX13_undo 51 = .ok (.iastore, 1) := by decide +kernel
theorem dX13_undo_52 : decode cX13_undo 52 = .ok (.iinc 1 1, 3) := by decide +kernel
theorem dX13_undo_55 : decode cX13_undo 55 = .ok (.goto (-29), 3) := by decide +kernel
theorem dX13_undo_58 : decode cX13_undo 58 = .ok (.aload_n 0, 1) := by decide +kernel
theorem dX13_undo_59 : decode cX13_undo 59 = .ok (.getfield 194, 3) := by decide +kernel
theorem dX13_undo_62 : decode cX13_undo 62 = .ok (.ireturn, 1) := by decide +kernel
theorem dX13_living_0 : decode cX13_living 0 = .ok (.iconst 0, 1) := by decide +kernel
theorem dX13_living_1 : decode cX13_living 1 = .ok (.istore_n 2, 1) := by decide +kernel
theorem dX13_living_2 : decode cX13_living 2 = .ok (.iconst 0, 1) := by decide +kernel
theorem dX13_living_3 : decode cX13_living 3 = .ok (.istore_n 3, 1) := by decide +kernel
theorem dX13_living_4 : decode cX13_living 4 = .ok (.iload_n 3, 1) := by decide +kernel
theorem dX13_living_5 : decode cX13_living 5 = .ok (.aload_n 0, 1) := by decide +kernel
theorem dX13_living_6 : decode cX13_living 6 = .ok (.getfield 13, 3) := by decide +kernel
theorem dX13_living_9 : decode cX13_living 9 = .ok (.iconst 0, 1) := by decide +kernel
theorem dX13_living_10 : decode cX13_living 10 = .ok (.iaload, 1) := by decide +kernel
theorem dX13_living_11 : decode cX13_living 11 = .ok (.if_icmp .ge 48, 3) := by decide +kernel
theorem dX13_living_14 : decode cX13_living 14 = .ok (.iload_n 2, 1) := by decide +kernel
theorem dX13_living_15 : decode cX13_living 15 = .ok (.aload_n 0, 1) := by decide +kernel
theorem dX13_living_16 : decode cX13_living 16 = .ok (.getfield 25, 3) := by decide +kernel
theorem dX13_living_19 : decode cX13_living 19 = .ok (.bipush 22, 2) := by decide +kernel
theorem dX13_living_21 : decode cX13_living 21 = .ok (.iload_n 1, 1) := by decide +kernel
theorem dX13_living_22 : decode cX13_living 22 = .ok (.iadd, 1) := by decide +kernel
theorem dX13_living_23 : decode cX13_living 23 = .ok (.iaload, 1) := by decide +kernel
theorem dX13_living_24 : decode cX13_living 24 = .ok (.iload_n 3, 1) := by decide +kernel
theorem dX13_living_25 : decode cX13_living 25 = .ok (.ishr, 1) := by decide +kernel
theorem dX13_living_26 : decode cX13_living 26 = .ok (.iconst 1, 1) := by decide +kernel
theorem dX13_living_27 : decode cX13_living 27 = .ok (.iand, 1) := by decide +kernel
theorem dX13_living_28 : decode cX13_living 28 = .ok (.iconst 1, 1) := by decide +kernel
theorem dX13_living_29 : decode cX13_living 29 = .ok (.if_icmp .ne 21, 3) := by decide +kernel
theorem dX13_living_32 : decode cX13_living 32 = .ok (.aload_n 0, 1) := by decide +kernel
theorem dX13_living_33 : decode cX13_living 33 = .ok (.iload_n 3, 1) := by decide +kernel
theorem dX13_living_34 : decode cX13_living 34 = .ok (.aload_n 0, 1) := by decide +kernel
theorem dX13_living_35 : decode cX13_living 35 = .ok (.iload_n 1, 1) := by decide +kernel
theorem dX13_living_36 : decode cX13_living 36 = .ok (.iconst 1, 1) := by decide +kernel
theorem dX13_living_37 : decode cX13_living 37 = .ok (.invokevirtual 218, 3) := by decide +kernel
theorem dX13_living_40 : decode cX13_living 40 = .ok (.invokevirtual 233, 3) := by decide +kernel
theorem dX13_living_43 : decode cX13_living 43 = .ok (.ifCond .eq 7, 3) := by decide +kernel
theorem dX13_living_46 : decode cX13_living 46 = .ok (.iconst 1, 1) := by decide +kernel
theorem dX13_living_47 : decode cX13_living 47 = .ok (.goto 4, 3) := by decide +kernel
theorem dX13_living_50 : decode cX13_living 50 = .ok (.iconst 0, 1) := by decide +kernel
theorem dX13_living_51 : decode cX13_living 51 = .ok (.iadd, 1) := by decide +kernel
theorem dX13_living_52 : decode cX13_living 52 = .ok (.istore_n 2, 1) := by decide +kernel
theorem dX13_living_53 : decode cX13_living 53 = .ok (.iinc 3 1, 3) := by decide +kernel
theorem dX13_living_56 : decode cX13_living 56 = .ok (.goto (-52), 3) := by decide +kernel
theorem dX13_living_59 : decode cX13_living 59 = .ok (.iload_n 2, 1) := by decide +kernel
theorem dX13_living_60 : decode cX13_living 60 = .ok (.ireturn, 1) := by decide +kernel
theorem dX13_hasForm_0 : decode cX13_hasForm 0 = .ok (.aload_n 0, 1) := by decide +kernel
theorem dX13_hasForm_1 : decode cX13_hasForm 1 = .ok (.iload_n 1, 1) := by decide +kernel
theorem dX13_hasForm_2 : decode cX13_hasForm 2 = .ok (.invokevirtual 236, 3) := by decide +kernel
theorem dX13_hasForm_5 : decode cX13_hasForm 5 = .ok (.aload_n 0, 1) := by decide +kernel
theorem dX13_hasForm_6 : decode cX13_hasForm 6 = .ok (.getfield 13, 3) := by decide +kernel
theorem dX13_hasForm_9 : decode cX13_hasForm 9 = .ok (.iconst 4, 1) := by decide +kernel
theorem dX13_hasForm_10 : decode cX13_hasForm 10 = .ok (.iconst 5, 1) := by decide +kernel
theorem dX13_hasForm_11 : decode cX13_hasForm 11 = .ok (.iload_n 2, 1) := by decide +kernel
theorem dX13_hasForm_12 : decode cX13_hasForm 12 = .ok (.imul, 1) := by decide +kernel
theorem dX13_hasForm_13 : decode cX13_hasForm 13 = .ok (.iadd, 1) := by decide +kernel
theorem dX13_hasForm_14 : decode cX13_hasForm 14 = .ok (.iaload, 1) := by decide +kernel
theorem dX13_hasForm_15 : decode cX13_hasForm 15 = .ok (.if_icmp .ge 22, 3) := by decide +kernel
theorem dX13_hasForm_18 : decode cX13_hasForm 18 = .ok (.aload_n 0, 1) := by decide +kernel
theorem dX13_hasForm_19 : decode cX13_hasForm 19 = .ok (.iload_n 1, 1) := by decide +kernel
theorem dX13_hasForm_20 : decode cX13_hasForm 20 = .ok (.iconst 4, 1) := by decide +kernel
theorem dX13_hasForm_21 : decode cX13_hasForm 21 = .ok (.invokevirtual 218, 3) := by decide +kernel
theorem dX13_hasForm_24 : decode cX13_hasForm 24 = .ok (.iconst 1, 1) := by decide +kernel
theorem dX13_hasForm_25 : decode cX13_hasForm 25 = .ok (.if_icmp .ne 16, 3) := by decide +kernel
theorem dX13_hasForm_28 : decode cX13_hasForm 28 = .ok (.aload_n 0, 1) := by decide +kernel
theorem dX13_hasForm_29 : decode cX13_hasForm 29 = .ok (.iload_n 2, 1) := by decide +kernel
theorem dX13_hasForm_30 : decode cX13_hasForm 30 = .ok (.iconst 1, 1) := by decide +kernel
theorem dX13_hasForm_31 : decode cX13_hasForm 31 = .ok (.invokevirtual 239, 3) := by decide +kernel
theorem dX13_hasForm_34 : decode cX13_hasForm 34 = .ok (.ifCond .eq 7, 3) := by decide +kernel
theorem dX13_hasForm_37 : decode cX13_hasForm 37 = .ok (.iconst 1, 1) := by decide +kernel
theorem dX13_hasForm_38 : decode cX13_hasForm 38 = .ok (.goto 4, 3) := by decide +kernel
theorem dX13_hasForm_41 : decode cX13_hasForm 41 = .ok (.iconst 0, 1) := by decide +kernel
theorem dX13_hasForm_42 : decode cX13_hasForm 42 = .ok (.ireturn, 1) := by decide +kernel
theorem dX13_form_0 : decode cX13_form 0 = .ok (.aload_n 0, 1) := by decide +kernel
theorem dX13_form_1 : decode cX13_form 1 = .ok (.iconst 0, 1) := by decide +kernel
theorem dX13_form_2 : decode cX13_form 2 = .ok (.putfield 61, 3) := by decide +kernel
theorem dX13_form_5 : decode cX13_form 5 = .ok (.aload_n 0, 1) := by decide +kernel
theorem dX13_form_6 : decode cX13_form 6 = .ok (.iload_n 1, 1) := by decide +kernel
theorem dX13_form_7 : decode cX13_form 7 = .ok (.invokevirtual 215, 3) := by decide +kernel
theorem dX13_form_10 : decode cX13_form 10 = .ok (.ifCond .eq 12, 3) := by decide +kernel
theorem dX13_form_13 : decode cX13_form 13 = .ok (.iload_n 2, 1) := by decide +kernel
theorem dX13_form_14 : decode cX13_form 14 = .ok (.ifCond .lt 8, 3) := by decide +kernel
theorem dX13_form_17 : decode cX13_form 17 = .ok (.iload_n 2, 1) := by decide +kernel
theorem dX13_form_18 : decode cX13_form 18 = .ok (.iconst 1, 1) := by decide +kernel
theorem dX13_form_19 : decode cX13_form 19 = .ok (.if_icmp .le 5, 3) := by decide +kernel
theorem dX13_form_22 : decode cX13_form 22 = .ok (.iconst (-1), 1) := by decide +kernel
theorem dX13_form_23 : decode cX13_form 23 = .ok (.ireturn, 1) := by decide +kernel
theorem dX13_form_24 : decode cX13_form 24 = .ok (.aload_n 0, 1) := by decide +kernel
theorem dX13_form_25 : decode cX13_form 25 = .ok (.iload_n 1, 1) := by decide +kernel
theorem dX13_form_26 : decode cX13_form 26 = .ok (.iload_n 2, 1) := by decide +kernel
theorem dX13_form_27 : decode cX13_form 27 = .ok (.invokevirtual 242, 3) := by decide +kernel
theorem dX13_form_30 : decode cX13_form 30 = .ok (.ifCond .eq 7, 3) := by decide +kernel
theorem dX13_form_33 : decode cX13_form 33 = .ok (.iconst 1, 1) := by decide +kernel
theorem dX13_form_34 : decode cX13_form 34 = .ok (.goto 4, 3) := by decide +kernel
theorem dX13_form_37 : decode cX13_form 37 = .ok (.iconst 0, 1) := by decide +kernel
theorem dX13_form_38 : decode cX13_form 38 = .ok (.ireturn, 1) := by decide +kernel
theorem dX13_isProved_0 : decode cX13_isProved 0 = .ok (.aload_n 0, 1) := by decide +kernel
theorem dX13_isProved_1 : decode cX13_isProved 1 = .ok (.getfield 25, 3) := by decide +kernel
theorem dX13_isProved_4 : decode cX13_isProved 4 = .ok (.bipush 10, 2) := by decide +kernel
theorem dX13_isProved_6 : decode cX13_isProved 6 = .ok (.iload_n 1, 1) := by decide +kernel
theorem dX13_isProved_7 : decode cX13_isProved 7 = .ok (.iadd, 1) := by decide +kernel
theorem dX13_isProved_8 : decode cX13_isProved 8 = .ok (.iaload, 1) := by decide +kernel
theorem dX13_isProved_9 : decode cX13_isProved 9 = .ok (.bipush (-2), 2) := by decide +kernel
theorem dX13_isProved_11 : decode cX13_isProved 11 = .ok (.if_icmp .eq 29, 3) := by decide +kernel
theorem dX13_isProved_14 : decode cX13_isProved 14 = .ok (.aload_n 0, 1) := by decide +kernel
theorem dX13_isProved_15 : decode cX13_isProved 15 = .ok (.getfield 25, 3) := by decide +kernel
theorem dX13_isProved_18 : decode cX13_isProved 18 = .ok (.bipush 10, 2) := by decide +kernel
theorem dX13_isProved_20 : decode cX13_isProved 20 = .ok (.iload_n 1, 1) := by decide +kernel
theorem dX13_isProved_21 : decode cX13_isProved 21 = .ok (.iadd, 1) := by decide +kernel
theorem dX13_isProved_22 : decode cX13_isProved 22 = .ok (.iaload, 1) := by decide +kernel
theorem dX13_isProved_23 : decode cX13_isProved 23 = .ok (.ifCond .le 21, 3) := by decide +kernel
theorem dX13_isProved_26 : decode cX13_isProved 26 = .ok (.aload_n 0, 1) := by decide +kernel
theorem dX13_isProved_27 : decode cX13_isProved 27 = .ok (.aload_n 0, 1) := by decide +kernel
theorem dX13_isProved_28 : decode cX13_isProved 28 = .ok (.iload_n 1, 1) := by decide +kernel
theorem dX13_isProved_29 : decode cX13_isProved 29 = .ok (.iconst 2, 1) := by decide +kernel
theorem dX13_isProved_30 : decode cX13_isProved 30 = .ok (.invokevirtual 218, 3) := by decide +kernel
theorem dX13_isProved_33 : decode cX13_isProved 33 = .ok (.iconst 3, 1) := by decide +kernel
theorem dX13_isProved_34 : decode cX13_isProved 34 = .ok (.invokevirtual 239, 3) := by decide +kernel
theorem dX13_isProved_37 : decode cX13_isProved 37 = .ok (.ifCond .eq 7, 3) := by decide +kernel
theorem dX13_isProved_40 : decode cX13_isProved 40 = .ok (.iconst 1, 1) := by decide +kernel
theorem dX13_isProved_41 : decode cX13_isProved 41 = .ok (.goto 4, 3) := by decide +kernel
theorem dX13_isProved_44 : decode cX13_isProved 44 = .ok (.iconst 0, 1) := by decide +kernel
theorem dX13_isProved_45 : decode cX13_isProved 45 = .ok (.ireturn, 1) := by decide +kernel
theorem dX13_lacks_0 : decode cX13_lacks 0 = .ok (.aload_n 0, 1) := by decide +kernel
theorem dX13_lacks_1 : decode cX13_lacks 1 = .ok (.getfield 25, 3) := by decide +kernel
theorem dX13_lacks_4 : decode cX13_lacks 4 = .ok (.bipush 34, 2) := by decide +kernel
theorem dX13_lacks_6 : decode cX13_lacks 6 = .ok (.iload_n 1, 1) := by decide +kernel
theorem dX13_lacks_7 : decode cX13_lacks 7 = .ok (.iadd, 1) := by decide +kernel
theorem dX13_lacks_8 : decode cX13_lacks 8 = .ok (.iaload, 1) := by decide +kernel
theorem dX13_lacks_9 : decode cX13_lacks 9 = .ok (.iconst 1, 1) := by decide +kernel
theorem dX13_lacks_10 : decode cX13_lacks 10 = .ok (.if_icmp .ne 6, 3) := by decide +kernel
theorem dX13_lacks_13 : decode cX13_lacks 13 = .ok (.bipush 7, 2) := by decide +kernel
theorem dX13_lacks_15 : decode cX13_lacks 15 = .ok (.ireturn, 1) := by decide +kernel
theorem dX13_lacks_16 : decode cX13_lacks 16 = .ok (.aload_n 0, 1) := by decide +kernel
theorem dX13_lacks_17 : decode cX13_lacks 17 = .ok (.aload_n 0, 1) := by decide +kernel
theorem dX13_lacks_18 : decode cX13_lacks 18 = .ok (.iload_n 1, 1) := by decide +kernel
theorem dX13_lacks_19 : decode cX13_lacks 19 = .ok (.iconst 0, 1) := by decide +kernel
theorem dX13_lacks_20 : decode cX13_lacks 20 = .ok (.invokevirtual 218, 3) := by decide +kernel
theorem dX13_lacks_23 : decode cX13_lacks 23 = .ok (.invokevirtual 203, 3) := by decide +kernel
theorem dX13_lacks_26 : decode cX13_lacks 26 = .ok (.istore_n 3, 1) := by decide +kernel
theorem dX13_lacks_27 : decode cX13_lacks 27 = .ok (.iload_n 3, 1) := by decide +kernel
theorem dX13_lacks_28 : decode cX13_lacks 28 = .ok (.bipush (-2), 2) := by decide +kernel
theorem dX13_lacks_30 : decode cX13_lacks 30 = .ok (.if_icmp .ne 5, 3) := by decide +kernel
theorem dX13_lacks_33 : decode cX13_lacks 33 = .ok (.iconst 1, 1) := by decide +kernel
theorem dX13_lacks_34 : decode cX13_lacks 34 = .ok (.ireturn, 1) := by decide +kernel
theorem dX13_lacks_35 : decode cX13_lacks 35 = .ok (.aload_n 0, 1) := by decide +kernel
theorem dX13_lacks_36 : decode cX13_lacks 36 = .ok (.iload_n 1, 1) := by decide +kernel
theorem dX13_lacks_37 : decode cX13_lacks 37 = .ok (.iconst 1, 1) := by decide +kernel
theorem dX13_lacks_38 : decode cX13_lacks 38 = .ok (.invokevirtual 218, 3) := by decide +kernel
theorem dX13_lacks_41 : decode cX13_lacks 41 = .ok (.iload_n 3, 1) := by decide +kernel
theorem dX13_lacks_42 : decode cX13_lacks 42 = .ok (.if_icmp .lt 5, 3) := by decide +kernel
theorem dX13_lacks_45 : decode cX13_lacks 45 = .ok (.iconst 2, 1) := by decide +kernel
theorem dX13_lacks_46 : decode cX13_lacks 46 = .ok (.ireturn, 1) := by decide +kernel
theorem dX13_lacks_47 : decode cX13_lacks 47 = .ok (.aload_n 0, 1) := by decide +kernel
theorem dX13_lacks_48 : decode cX13_lacks 48 = .ok (.iload_n 1, 1) := by decide +kernel
theorem dX13_lacks_49 : decode cX13_lacks 49 = .ok (.invokevirtual 245, 3) := by decide +kernel
theorem dX13_lacks_52 : decode cX13_lacks 52 = .ok (.ifCond .ne 5, 3) := by decide +kernel
theorem dX13_lacks_55 : decode cX13_lacks 55 = .ok (.iconst 3, 1) := by decide +kernel
theorem dX13_lacks_56 : decode cX13_lacks 56 = .ok (.ireturn, 1) := by decide +kernel
theorem dX13_lacks_57 : decode cX13_lacks 57 = .ok (.aload_n 0, 1) := by decide +kernel
theorem dX13_lacks_58 : decode cX13_lacks 58 = .ok (.iload_n 1, 1) := by decide +kernel
theorem dX13_lacks_59 : decode cX13_lacks 59 = .ok (.aload_n 0, 1) := by decide +kernel
theorem dX13_lacks_60 : decode cX13_lacks 60 = .ok (.iload_n 1, 1) := by decide +kernel
theorem dX13_lacks_61 : decode cX13_lacks 61 = .ok (.iconst 2, 1) := by decide +kernel
theorem dX13_lacks_62 : decode cX13_lacks 62 = .ok (.invokevirtual 218, 3) := by decide +kernel
theorem dX13_lacks_65 : decode cX13_lacks 65 = .ok (.invokevirtual 242, 3) := by decide +kernel
theorem dX13_lacks_68 : decode cX13_lacks 68 = .ok (.ifCond .ne 16, 3) := by decide +kernel
theorem dX13_lacks_71 : decode cX13_lacks 71 = .ok (.aload_n 0, 1) := by decide +kernel
theorem dX13_lacks_72 : decode cX13_lacks 72 = .ok (.iload_n 1, 1) := by decide +kernel
theorem dX13_lacks_73 : decode cX13_lacks 73 = .ok (.aload_n 0, 1) := by decide +kernel
theorem dX13_lacks_74 : decode cX13_lacks 74 = .ok (.iload_n 2, 1) := by decide +kernel
theorem dX13_lacks_75 : decode cX13_lacks 75 = .ok (.invokevirtual 248, 3) := by decide +kernel
theorem dX13_lacks_78 : decode cX13_lacks 78 = .ok (.invokevirtual 242, 3) := by decide +kernel
theorem dX13_lacks_81 : decode cX13_lacks 81 = .ok (.ifCond .eq 7, 3) := by decide +kernel
theorem dX13_lacks_84 : decode cX13_lacks 84 = .ok (.iconst 0, 1) := by decide +kernel
theorem dX13_lacks_85 : decode cX13_lacks 85 = .ok (.goto 4, 3) := by decide +kernel
theorem dX13_lacks_88 : decode cX13_lacks 88 = .ok (.iconst 4, 1) := by decide +kernel
theorem dX13_lacks_89 : decode cX13_lacks 89 = .ok (.ireturn, 1) := by decide +kernel
theorem dX13_isLater_0 : decode cX13_isLater 0 = .ok (.aload_n 0, 1) := by decide +kernel
theorem dX13_isLater_1 : decode cX13_isLater 1 = .ok (.iload_n 1, 1) := by decide +kernel
theorem dX13_isLater_2 : decode cX13_isLater 2 = .ok (.iconst 1, 1) := by decide +kernel
theorem dX13_isLater_3 : decode cX13_isLater 3 = .ok (.invokevirtual 218, 3) := by decide +kernel
theorem dX13_isLater_6 : decode cX13_isLater 6 = .ok (.aload_n 0, 1) := by decide +kernel
theorem dX13_isLater_7 : decode cX13_isLater 7 = .ok (.iload_n 2, 1) := by decide +kernel
theorem dX13_isLater_8 : decode cX13_isLater 8 = .ok (.iconst 1, 1) := by decide +kernel
theorem dX13_isLater_9 : decode cX13_isLater 9 = .ok (.invokevirtual 218, 3) := by decide +kernel
theorem dX13_isLater_12 : decode cX13_isLater 12 = .ok (.if_icmp .gt 23, 3) := by decide +kernel
theorem dX13_isLater_15 : decode cX13_isLater 15 = .ok (.aload_n 0, 1) := by decide +kernel
theorem dX13_isLater_16 : decode cX13_isLater 16 = .ok (.iload_n 1, 1) := by decide +kernel
theorem dX13_isLater_17 : decode cX13_isLater 17 = .ok (.iconst 1, 1) := by decide +kernel
theorem dX13_isLater_18 : decode cX13_isLater 18 = .ok (.invokevirtual 218, 3) := by decide +kernel
theorem dX13_isLater_21 : decode cX13_isLater 21 = .ok (.aload_n 0, 1) := by decide +kernel
theorem dX13_isLater_22 : decode cX13_isLater 22 = .ok (.iload_n 2, 1) := by decide +kernel
theorem dX13_isLater_23 : decode cX13_isLater 23 = .ok (.iconst 1, 1) := by decide +kernel
theorem dX13_isLater_24 : decode cX13_isLater 24 = .ok (.invokevirtual 218, 3) := by decide +kernel
theorem dX13_isLater_27 : decode cX13_isLater 27 = .ok (.if_icmp .ne 12, 3) := by decide +kernel
theorem dX13_isLater_30 : decode cX13_isLater 30 = .ok (.iload_n 1, 1) := by decide +kernel
theorem dX13_isLater_31 : decode cX13_isLater 31 = .ok (.iload_n 2, 1) := by decide +kernel
theorem dX13_isLater_32 : decode cX13_isLater 32 = .ok (.if_icmp .le 7, 3) := by decide +kernel
theorem dX13_isLater_35 : decode cX13_isLater 35 = .ok (.iconst 1, 1) := by decide +kernel
theorem dX13_isLater_36 : decode cX13_isLater 36 = .ok (.goto 4, 3) := by decide +kernel
theorem dX13_isLater_39 : decode cX13_isLater 39 = .ok (.iconst 0, 1) := by decide +kernel
theorem dX13_isLater_40 : decode cX13_isLater 40 = .ok (.ireturn, 1) := by decide +kernel
theorem dX13_struck_0 : decode cX13_struck 0 = .ok (.bipush (-2), 2) := by decide +kernel
theorem dX13_struck_2 : decode cX13_struck 2 = .ok (.istore_n 3, 1) := by decide +kernel
theorem dX13_struck_3 : decode cX13_struck 3 = .ok (.iconst 0, 1) := by decide +kernel
theorem dX13_struck_4 : decode cX13_struck 4 = .ok (.istore 4, 2) := by decide +kernel
theorem dX13_struck_6 : decode cX13_struck 6 = .ok (.iload 4, 2) := by decide +kernel
theorem dX13_struck_8 : decode cX13_struck 8 = .ok (.aload_n 0, 1) := by decide +kernel
theorem dX13_struck_9 : decode cX13_struck 9 = .ok (.getfield 13, 3) := by decide +kernel
theorem dX13_struck_12 : decode cX13_struck 12 = .ok (.iconst 2, 1) := by decide +kernel
theorem dX13_struck_13 : decode cX13_struck 13 = .ok (.iaload, 1) := by decide +kernel
theorem dX13_struck_14 : decode cX13_struck 14 = .ok (.if_icmp .ge 101, 3) := by decide +kernel
theorem dX13_struck_17 : decode cX13_struck 17 = .ok (.aload_n 0, 1) := by decide +kernel
theorem dX13_struck_18 : decode cX13_struck 18 = .ok (.iload 4, 2) := by decide +kernel
theorem dX13_struck_20 : decode cX13_struck 20 = .ok (.iconst 0, 1) := by decide +kernel
theorem dX13_struck_21 : decode cX13_struck 21 = .ok (.invokevirtual 218, 3) := by decide +kernel
theorem dX13_struck_24 : decode cX13_struck 24 = .ok (.aload_n 0, 1) := by decide +kernel
theorem dX13_struck_25 : decode cX13_struck 25 = .ok (.iload_n 1, 1) := by decide +kernel
theorem dX13_struck_26 : decode cX13_struck 26 = .ok (.iconst 0, 1) := by decide +kernel
theorem dX13_struck_27 : decode cX13_struck 27 = .ok (.invokevirtual 218, 3) := by decide +kernel
theorem dX13_struck_30 : decode cX13_struck 30 = .ok (.if_icmp .ne 52, 3) := by decide +kernel
theorem dX13_struck_33 : decode cX13_struck 33 = .ok (.aload_n 0, 1) := by decide +kernel
theorem dX13_struck_34 : decode cX13_struck 34 = .ok (.iload 4, 2) := by decide +kernel
theorem dX13_struck_36 : decode cX13_struck 36 = .ok (.iload_n 1, 1) := by decide +kernel
theorem dX13_struck_37 : decode cX13_struck 37 = .ok (.invokevirtual 251, 3) := by decide +kernel
theorem dX13_struck_40 : decode cX13_struck 40 = .ok (.ifCond .eq 42, 3) := by decide +kernel
theorem dX13_struck_43 : decode cX13_struck 43 = .ok (.aload_n 0, 1) := by decide +kernel
theorem dX13_struck_44 : decode cX13_struck 44 = .ok (.iload 4, 2) := by decide +kernel
theorem dX13_struck_46 : decode cX13_struck 46 = .ok (.iconst 3, 1) := by decide +kernel
theorem dX13_struck_47 : decode cX13_struck 47 = .ok (.invokevirtual 218, 3) := by decide +kernel
theorem dX13_struck_50 : decode cX13_struck 50 = .ok (.ifCond .eq 18, 3) := by decide +kernel
theorem dX13_struck_53 : decode cX13_struck 53 = .ok (.aload_n 0, 1) := by decide +kernel
theorem dX13_struck_54 : decode cX13_struck 54 = .ok (.getfield 19, 3) := by decide +kernel
theorem dX13_struck_57 : decode cX13_struck 57 = .ok (.iload 4, 2) := by decide +kernel
theorem dX13_struck_59 : decode cX13_struck 59 = .ok (.iaload, 1) := by decide +kernel
theorem dX13_struck_60 : decode cX13_struck 60 = .ok (.iload_n 1, 1) := by decide +kernel
theorem dX13_struck_61 : decode cX13_struck 61 = .ok (.ishr, 1) := by decide +kernel
theorem dX13_struck_62 : decode cX13_struck 62 = .ok (.iconst 1, 1) := by decide +kernel
theorem dX13_struck_63 : decode cX13_struck 63 = .ok (.iand, 1) := by decide +kernel
theorem dX13_struck_64 : decode cX13_struck 64 = .ok (.iconst 1, 1) := by decide +kernel
theorem dX13_struck_65 : decode cX13_struck 65 = .ok (.if_icmp .ne 17, 3) := by decide +kernel
theorem dX13_struck_68 : decode cX13_struck 68 = .ok (.aload_n 0, 1) := by decide +kernel
theorem dX13_struck_69 : decode cX13_struck 69 = .ok (.iload 4, 2) := by decide +kernel
theorem dX13_struck_71 : decode cX13_struck 71 = .ok (.iload_n 2, 1) := by decide +kernel
theorem dX13_struck_72 : decode cX13_struck 72 = .ok (.invokevirtual 254, 3) := by decide +kernel
theorem dX13_struck_75 : decode cX13_struck 75 = .ok (.ifCond .ne 7, 3) := by decide +kernel
theorem dX13_struck_78 : decode cX13_struck 78 = .ok (.iconst 1, 1) := by decide +kernel
theorem dX13_struck_79 : decode cX13_struck 79 = .ok (.goto 4, 3) := by decide +kernel
theorem dX13_struck_82 : decode cX13_struck 82 = .ok (.iconst 0, 1) := by decide +kernel
theorem dX13_struck_83 : decode cX13_struck 83 = .ok (.istore 5, 2) := by decide +kernel
theorem dX13_struck_85 : decode cX13_struck 85 = .ok (.iload 5, 2) := by decide +kernel
theorem dX13_struck_87 : decode cX13_struck 87 = .ok (.ifCond .eq 22, 3) := by decide +kernel
theorem dX13_struck_90 : decode cX13_struck 90 = .ok (.iload_n 3, 1) := by decide +kernel
theorem dX13_struck_91 : decode cX13_struck 91 = .ok (.bipush (-2), 2) := by decide +kernel
theorem dX13_struck_93 : decode cX13_struck 93 = .ok (.if_icmp .eq 13, 3) := by decide +kernel
theorem dX13_struck_96 : decode cX13_struck 96 = .ok (.aload_n 0, 1) := by decide +kernel
theorem dX13_struck_97 : decode cX13_struck 97 = .ok (.iload 4, 2) := by decide +kernel
theorem dX13_struck_99 : decode cX13_struck 99 = .ok (.iload_n 3, 1) := by decide +kernel
theorem dX13_struck_100 : decode cX13_struck 100 = .ok (.invokevirtual 251, 3) := by decide +kernel
theorem dX13_struck_103 : decode cX13_struck 103 = .ok (.ifCond .eq 6, 3) := by decide +kernel
theorem dX13_struck_106 : decode cX13_struck 106 = .ok (.iload 4, 2) := by decide +kernel
theorem dX13_struck_108 : decode cX13_struck 108 = .ok (.istore_n 3, 1) := by decide +kernel
theorem dX13_struck_109 : decode cX13_struck 109 = .ok (.iinc 4 1, 3) := by decide +kernel
theorem dX13_struck_112 : decode cX13_struck 112 = .ok (.goto (-106), 3) := by decide +kernel
theorem dX13_struck_115 : decode cX13_struck 115 = .ok (.iload_n 3, 1) := by decide +kernel
theorem dX13_struck_116 : decode cX13_struck 116 = .ok (.ireturn, 1) := by decide +kernel
theorem dX13_isBroken_0 : decode cX13_isBroken 0 = .ok (.aload_n 0, 1) := by decide +kernel
theorem dX13_isBroken_1 : decode cX13_isBroken 1 = .ok (.iload_n 1, 1) := by decide +kernel
theorem dX13_isBroken_2 : decode cX13_isBroken 2 = .ok (.iconst 0, 1) := by decide +kernel
theorem dX13_isBroken_3 : decode cX13_isBroken 3 = .ok (.invokevirtual 218, 3) := by decide +kernel
theorem dX13_isBroken_6 : decode cX13_isBroken 6 = .ok (.istore_n 2, 1) := by decide +kernel
theorem dX13_isBroken_7 : decode cX13_isBroken 7 = .ok (.iconst 0, 1) := by decide +kernel
theorem dX13_isBroken_8 : decode cX13_isBroken 8 = .ok (.istore_n 3, 1) := by decide +kernel
theorem dX13_isBroken_9 : decode cX13_isBroken 9 = .ok (.iconst 0, 1) := by decide +kernel
theorem dX13_isBroken_10 : decode cX13_isBroken 10 = .ok (.istore 4, 2) := by decide +kernel
theorem dX13_isBroken_12 : decode cX13_isBroken 12 = .ok (.iload 4, 2) := by decide +kernel
theorem dX13_isBroken_14 : decode cX13_isBroken 14 = .ok (.aload_n 0, 1) := by decide +kernel
theorem dX13_isBroken_15 : decode cX13_isBroken 15 = .ok (.getfield 25, 3) := by decide +kernel
theorem dX13_isBroken_18 : decode cX13_isBroken 18 = .ok (.bipush 64, 2) := by decide +kernel
theorem dX13_isBroken_20 : decode cX13_isBroken 20 = .ok (.iaload, 1) := by decide +kernel
theorem dX13_isBroken_21 : decode cX13_isBroken 21 = .ok (.if_icmp .ge 85, 3) := by decide +kernel
theorem dX13_isBroken_24 : decode cX13_isBroken 24 = .ok (.bipush 46, 2) := by decide +kernel
theorem dX13_isBroken_26 : decode cX13_isBroken 26 = .ok (.iconst 3, 1) := by decide +kernel
theorem dX13_isBroken_27 : decode cX13_isBroken 27 = .ok (.iload 4, 2) := by decide +kernel
theorem dX13_isBroken_29 : decode cX13_isBroken 29 = .ok (.imul, 1) := by decide +kernel
theorem dX13_isBroken_30 : decode cX13_isBroken 30 = .ok (.iadd, 1) := by decide +kernel
theorem dX13_isBroken_31 : decode cX13_isBroken 31 = .ok (.istore 5, 2) := by decide +kernel
theorem dX13_isBroken_33 : decode cX13_isBroken 33 = .ok (.iload_n 3, 1) := by decide +kernel
theorem dX13_isBroken_34 : decode cX13_isBroken 34 = .ok (.aload_n 0, 1) := by decide +kernel
theorem dX13_isBroken_35 : decode cX13_isBroken 35 = .ok (.getfield 25, 3) := by decide +kernel
theorem dX13_isBroken_38 : decode cX13_isBroken 38 = .ok (.iload 5, 2) := by decide +kernel
theorem dX13_isBroken_40 : decode cX13_isBroken 40 = .ok (.iaload, 1) := by decide +kernel
theorem dX13_isBroken_41 : decode cX13_isBroken 41 = .ok (.iload_n 2, 1) := by decide +kernel
theorem dX13_isBroken_42 : decode cX13_isBroken 42 = .ok (.if_icmp .eq 16, 3) := by decide +kernel
theorem dX13_isBroken_45 : decode cX13_isBroken 45 = .ok (.aload_n 0, 1) := by decide +kernel
theorem dX13_isBroken_46 : decode cX13_isBroken 46 = .ok (.getfield 25, 3) := by decide +kernel
theorem dX13_isBroken_49 : decode cX13_isBroken 49 = .ok (.iload 5, 2) := by decide +kernel
theorem dX13_isBroken_51 : decode cX13_isBroken 51 = .ok (.iconst 1, 1) := by decide +kernel
theorem dX13_isBroken_52 : decode cX13_isBroken 52 = .ok (.iadd, 1) := by decide +kernel
theorem dX13_isBroken_53 : decode cX13_isBroken 53 = .ok (.iaload, 1) := by decide +kernel
theorem dX13_isBroken_54 : decode cX13_isBroken 54 = .ok (.iload_n 2, 1) := by decide +kernel
theorem dX13_isBroken_55 : decode cX13_isBroken 55 = .ok (.if_icmp .ne 42, 3) := by decide +kernel
theorem dX13_isBroken_58 : decode cX13_isBroken 58 = .ok (.aload_n 0, 1) := by decide +kernel
theorem dX13_isBroken_59 : decode cX13_isBroken 59 = .ok (.getfield 25, 3) := by decide +kernel
theorem dX13_isBroken_62 : decode cX13_isBroken 62 = .ok (.iload 5, 2) := by decide +kernel
theorem dX13_isBroken_64 : decode cX13_isBroken 64 = .ok (.iconst 2, 1) := by decide +kernel
theorem dX13_isBroken_65 : decode cX13_isBroken 65 = .ok (.iadd, 1) := by decide +kernel
theorem dX13_isBroken_66 : decode cX13_isBroken 66 = .ok (.iaload, 1) := by decide +kernel
theorem dX13_isBroken_67 : decode cX13_isBroken 67 = .ok (.aload_n 0, 1) := by decide +kernel
theorem dX13_isBroken_68 : decode cX13_isBroken 68 = .ok (.iload_n 1, 1) := by decide +kernel
theorem dX13_isBroken_69 : decode cX13_isBroken 69 = .ok (.iconst 1, 1) := by decide +kernel
theorem dX13_isBroken_70 : decode cX13_isBroken 70 = .ok (.invokevirtual 218, 3) := by decide +kernel
theorem dX13_isBroken_73 : decode cX13_isBroken 73 = .ok (.if_icmp .le 24, 3) := by decide +kernel
theorem dX13_isBroken_76 : decode cX13_isBroken 76 = .ok (.aload_n 0, 1) := by decide +kernel
theorem dX13_isBroken_77 : decode cX13_isBroken 77 = .ok (.getfield 25, 3) := by decide +kernel
theorem dX13_isBroken_80 : decode cX13_isBroken 80 = .ok (.iload 5, 2) := by decide +kernel
theorem dX13_isBroken_82 : decode cX13_isBroken 82 = .ok (.iconst 2, 1) := by decide +kernel
theorem dX13_isBroken_83 : decode cX13_isBroken 83 = .ok (.iadd, 1) := by decide +kernel
theorem dX13_isBroken_84 : decode cX13_isBroken 84 = .ok (.iaload, 1) := by decide +kernel
theorem dX13_isBroken_85 : decode cX13_isBroken 85 = .ok (.aload_n 0, 1) := by decide +kernel
theorem dX13_isBroken_86 : decode cX13_isBroken 86 = .ok (.iload_n 2, 1) := by decide +kernel
theorem dX13_isBroken_87 : decode cX13_isBroken 87 = .ok (.invokevirtual 203, 3) := by decide +kernel
theorem dX13_isBroken_90 : decode cX13_isBroken 90 = .ok (.if_icmp .ge 7, 3) := by decide +kernel
theorem dX13_isBroken_93 : decode cX13_isBroken 93 = .ok (.iconst 1, 1) := by decide +kernel
theorem dX13_isBroken_94 : decode cX13_isBroken 94 = .ok (.goto 4, 3) := by decide +kernel
theorem dX13_isBroken_97 : decode cX13_isBroken 97 = .ok (.iconst 0, 1) := by decide +kernel
theorem dX13_isBroken_98 : decode cX13_isBroken 98 = .ok (.ior, 1) := by decide +kernel
theorem dX13_isBroken_99 : decode cX13_isBroken 99 = .ok (.istore_n 3, 1) := by decide +kernel
theorem dX13_isBroken_100 : decode cX13_isBroken 100 = .ok (.iinc 4 1, 3) := by decide +kernel
theorem dX13_isBroken_103 : decode cX13_isBroken 103 = .ok (.goto (-91), 3) := by decide +kernel
theorem dX13_isBroken_106 : decode cX13_isBroken 106 = .ok (.iload_n 3, 1) := by decide +kernel
theorem dX13_isBroken_107 : decode cX13_isBroken 107 = .ok (.ifCond .eq 21, 3) := by decide +kernel
theorem dX13_isBroken_110 : decode cX13_isBroken 110 = .ok (.aload_n 0, 1) := by decide +kernel
theorem dX13_isBroken_111 : decode cX13_isBroken 111 = .ok (.aload_n 0, 1) := by decide +kernel
theorem dX13_isBroken_112 : decode cX13_isBroken 112 = .ok (.iload_n 1, 1) := by decide +kernel
theorem dX13_isBroken_113 : decode cX13_isBroken 113 = .ok (.iconst 2, 1) := by decide +kernel
theorem dX13_isBroken_114 : decode cX13_isBroken 114 = .ok (.invokevirtual 218, 3) := by decide +kernel
theorem dX13_isBroken_117 : decode cX13_isBroken 117 = .ok (.iconst 2, 1) := by decide +kernel
theorem dX13_isBroken_118 : decode cX13_isBroken 118 = .ok (.invokevirtual 239, 3) := by decide +kernel
theorem dX13_isBroken_121 : decode cX13_isBroken 121 = .ok (.ifCond .eq 7, 3) := by decide +kernel
theorem dX13_isBroken_124 : decode cX13_isBroken 124 = .ok (.iconst 1, 1) := by decide +kernel
theorem dX13_isBroken_125 : decode cX13_isBroken 125 = .ok (.goto 4, 3) := by decide +kernel
theorem dX13_isBroken_128 : decode cX13_isBroken 128 = .ok (.iconst 0, 1) := by decide +kernel
theorem dX13_isBroken_129 : decode cX13_isBroken 129 = .ok (.ireturn, 1) := by decide +kernel
theorem dX13_whyNot_0 : decode cX13_whyNot 0 = .ok (.aload_n 0, 1) := by decide +kernel
theorem dX13_whyNot_1 : decode cX13_whyNot 1 = .ok (.iload_n 1, 1) := by decide +kernel
theorem dX13_whyNot_2 : decode cX13_whyNot 2 = .ok (.iload_n 2, 1) := by decide +kernel
theorem dX13_whyNot_3 : decode cX13_whyNot 3 = .ok (.invokevirtual 254, 3) := by decide +kernel
theorem dX13_whyNot_6 : decode cX13_whyNot 6 = .ok (.istore_n 3, 1) := by decide +kernel
theorem dX13_whyNot_7 : decode cX13_whyNot 7 = .ok (.iload_n 3, 1) := by decide +kernel
theorem dX13_whyNot_8 : decode cX13_whyNot 8 = .ok (.ifCond .eq 5, 3) := by decide +kernel
theorem dX13_whyNot_11 : decode cX13_whyNot 11 = .ok (.iload_n 3, 1) := by decide +kernel
theorem dX13_whyNot_12 : decode cX13_whyNot 12 = .ok (.ireturn, 1) := by decide +kernel
theorem dX13_whyNot_13 : decode cX13_whyNot 13 = .ok (.aload_n 0, 1) := by decide +kernel
theorem dX13_whyNot_14 : decode cX13_whyNot 14 = .ok (.iload_n 1, 1) := by decide +kernel
theorem dX13_whyNot_15 : decode cX13_whyNot 15 = .ok (.iload_n 2, 1) := by decide +kernel
theorem dX13_whyNot_16 : decode cX13_whyNot 16 = .ok (.invokevirtual 257, 3) := by decide +kernel
theorem dX13_whyNot_19 : decode cX13_whyNot 19 = .ok (.bipush (-2), 2) := by decide +kernel
theorem dX13_whyNot_21 : decode cX13_whyNot 21 = .ok (.if_icmp .eq 7, 3) := by decide +kernel
theorem dX13_whyNot_24 : decode cX13_whyNot 24 = .ok (.iconst 5, 1) := by decide +kernel
theorem dX13_whyNot_25 : decode cX13_whyNot 25 = .ok (.goto 17, 3) := by decide +kernel
theorem dX13_whyNot_28 : decode cX13_whyNot 28 = .ok (.aload_n 0, 1) := by decide +kernel
theorem dX13_whyNot_29 : decode cX13_whyNot 29 = .ok (.iload_n 1, 1) := by decide +kernel
theorem dX13_whyNot_30 : decode cX13_whyNot 30 = .ok (.invokevirtual 260, 3) := by decide +kernel
theorem dX13_whyNot_33 : decode cX13_whyNot 33 = .ok (.ifCond .eq 8, 3) := by decide +kernel
theorem dX13_whyNot_36 : decode cX13_whyNot 36 = .ok (.bipush 6, 2) := by decide +kernel
theorem dX13_whyNot_38 : decode cX13_whyNot 38 = .ok (.goto 4, 3) := by decide +kernel
theorem dX13_whyNot_41 : decode cX13_whyNot 41 = .ok (.iconst 0, 1) := by decide +kernel
theorem dX13_whyNot_42 : decode cX13_whyNot 42 = .ok (.ireturn, 1) := by decide +kernel
theorem dX13_why_0 : decode cX13_why 0 = .ok (.aload_n 0, 1) := by decide +kernel
theorem dX13_why_1 : decode cX13_why 1 = .ok (.iconst 0, 1) := by decide +kernel
theorem dX13_why_2 : decode cX13_why 2 = .ok (.putfield 61, 3) := by decide +kernel
theorem dX13_why_5 : decode cX13_why 5 = .ok (.aload_n 0, 1) := by decide +kernel
theorem dX13_why_6 : decode cX13_why 6 = .ok (.iload_n 1, 1) := by decide +kernel
theorem dX13_why_7 : decode cX13_why 7 = .ok (.invokevirtual 215, 3) := by decide +kernel
theorem dX13_why_10 : decode cX13_why 10 = .ok (.ifCond .eq 20, 3) := by decide +kernel
theorem dX13_why_13 : decode cX13_why 13 = .ok (.aload_n 0, 1) := by decide +kernel
theorem dX13_why_14 : decode cX13_why 14 = .ok (.iload_n 2, 1) := by decide +kernel
theorem dX13_why_15 : decode cX13_why 15 = .ok (.invokevirtual 221, 3) := by decide +kernel
theorem dX13_why_18 : decode cX13_why 18 = .ok (.ifCond .eq 12, 3) := by decide +kernel
theorem dX13_why_21 : decode cX13_why 21 = .ok (.aload_n 0, 1) := by decide +kernel
theorem dX13_why_22 : decode cX13_why 22 = .ok (.iload_n 1, 1) := by decide +kernel
theorem dX13_why_23 : decode cX13_why 23 = .ok (.iload_n 2, 1) := by decide +kernel
theorem dX13_why_24 : decode cX13_why 24 = .ok (.invokevirtual 263, 3) := by decide +kernel
theorem dX13_why_27 : decode cX13_why 27 = .ok (.goto 4, 3) := by decide +kernel
theorem dX13_why_30 : decode cX13_why 30 = .ok (.iconst (-1), 1) := by decide +kernel
theorem dX13_why_31 : decode cX13_why 31 = .ok (.ireturn, 1) := by decide +kernel
theorem dX13_struckBy_0 : decode cX13_struckBy 0 = .ok (.aload_n 0, 1) := by decide +kernel
theorem dX13_struckBy_1 : decode cX13_struckBy 1 = .ok (.iconst 0, 1) := by decide +kernel
theorem dX13_struckBy_2 : decode cX13_struckBy 2 = .ok (.putfield 61, 3) := by decide +kernel
theorem dX13_struckBy_5 : decode cX13_struckBy 5 = .ok (.aload_n 0, 1) := by decide +kernel
theorem dX13_struckBy_6 : decode cX13_struckBy 6 = .ok (.iload_n 1, 1) := by decide +kernel
theorem dX13_struckBy_7 : decode cX13_struckBy 7 = .ok (.invokevirtual 215, 3) := by decide +kernel
theorem dX13_struckBy_10 : decode cX13_struckBy 10 = .ok (.ifCond .eq 20, 3) := by decide +kernel
theorem dX13_struckBy_13 : decode cX13_struckBy 13 = .ok (.aload_n 0, 1) := by decide +kernel
theorem dX13_struckBy_14 : decode cX13_struckBy 14 = .ok (.iload_n 2, 1) := by decide +kernel
theorem dX13_struckBy_15 : decode cX13_struckBy 15 = .ok (.invokevirtual 221, 3) := by decide +kernel
theorem dX13_struckBy_18 : decode cX13_struckBy 18 = .ok (.ifCond .eq 12, 3) := by decide +kernel
theorem dX13_struckBy_21 : decode cX13_struckBy 21 = .ok (.aload_n 0, 1) := by decide +kernel
theorem dX13_struckBy_22 : decode cX13_struckBy 22 = .ok (.iload_n 1, 1) := by decide +kernel
theorem dX13_struckBy_23 : decode cX13_struckBy 23 = .ok (.iload_n 2, 1) := by decide +kernel
theorem dX13_struckBy_24 : decode cX13_struckBy 24 = .ok (.invokevirtual 257, 3) := by decide +kernel
theorem dX13_struckBy_27 : decode cX13_struckBy 27 = .ok (.goto 4, 3) := by decide +kernel
theorem dX13_struckBy_30 : decode cX13_struckBy 30 = .ok (.iconst (-1), 1) := by decide +kernel
theorem dX13_struckBy_31 : decode cX13_struckBy 31 = .ok (.ireturn, 1) := by decide +kernel
theorem dX13_countingAt_0 : decode cX13_countingAt 0 = .ok (.iconst 0, 1) := by decide +kernel
theorem dX13_countingAt_1 : decode cX13_countingAt 1 = .ok (.istore 4, 2) := by decide +kernel
theorem dX13_countingAt_3 : decode cX13_countingAt 3 = .ok (.iload 4, 2) := by decide +kernel
theorem dX13_countingAt_5 : decode cX13_countingAt 5 = .ok (.aload_n 0, 1) := by decide +kernel
theorem dX13_countingAt_6 : decode cX13_countingAt 6 = .ok (.getfield 13, 3) := by decide +kernel
theorem dX13_countingAt_9 : decode cX13_countingAt 9 = .ok (.iconst 2, 1) := by decide +kernel
theorem dX13_countingAt_10 : decode cX13_countingAt 10 = .ok (.iaload, 1) := by decide +kernel
theorem dX13_countingAt_11 : decode cX13_countingAt 11 = .ok (.if_icmp .ge 107, 3) := by decide +kernel
theorem dX13_countingAt_14 : decode cX13_countingAt 14 = .ok (.aload_n 0, 1) := by decide +kernel
theorem dX13_countingAt_15 : decode cX13_countingAt 15 = .ok (.iload 4, 2) := by decide +kernel
theorem dX13_countingAt_17 : decode cX13_countingAt 17 = .ok (.iconst 0, 1) := by decide +kernel
theorem dX13_countingAt_18 : decode cX13_countingAt 18 = .ok (.invokevirtual 218, 3) := by decide +kernel
theorem dX13_countingAt_21 : decode cX13_countingAt 21 = .ok (.iload_n 1, 1) := by decide +kernel
theorem dX13_countingAt_22 : decode cX13_countingAt 22 = .ok (.if_icmp .ne 90, 3) := by decide +kernel
theorem dX13_countingAt_25 : decode cX13_countingAt 25 = .ok (.aload_n 0, 1) := by decide +kernel
theorem dX13_countingAt_26 : decode cX13_countingAt 26 = .ok (.iload 4, 2) := by decide +kernel
theorem dX13_countingAt_28 : decode cX13_countingAt 28 = .ok (.iload_n 2, 1) := by decide +kernel
theorem dX13_countingAt_29 : decode cX13_countingAt 29 = .ok (.invokevirtual 263, 3) := by decide +kernel
theorem dX13_countingAt_32 : decode cX13_countingAt 32 = .ok (.ifCond .eq 6, 3) := by decide +kernel
theorem dX13_countingAt_35 : decode cX13_countingAt 35 = .ok (.goto 77, 3) := by decide +kernel
theorem dX13_countingAt_38 : decode cX13_countingAt 38 = .ok (.iconst 0, 1) := by decide +kernel
theorem dX13_countingAt_39 : decode cX13_countingAt 39 = .ok (.istore 5, 2) := by decide +kernel
theorem dX13_countingAt_41 : decode cX13_countingAt 41 = .ok (.iconst 0, 1) := by decide +kernel
theorem dX13_countingAt_42 : decode cX13_countingAt 42 = .ok (.istore 6, 2) := by decide +kernel
theorem dX13_countingAt_44 : decode cX13_countingAt 44 = .ok (.iload 6, 2) := by decide +kernel
theorem dX13_countingAt_46 : decode cX13_countingAt 46 = .ok (.aload_n 0, 1) := by decide +kernel
theorem dX13_countingAt_47 : decode cX13_countingAt 47 = .ok (.getfield 13, 3) := by decide +kernel
theorem dX13_countingAt_50 : decode cX13_countingAt 50 = .ok (.iconst 2, 1) := by decide +kernel
theorem dX13_countingAt_51 : decode cX13_countingAt 51 = .ok (.iaload, 1) := by decide +kernel
theorem dX13_countingAt_52 : decode cX13_countingAt 52 = .ok (.if_icmp .ge 51, 3) := by decide +kernel
theorem dX13_countingAt_55 : decode cX13_countingAt 55 = .ok (.iload 5, 2) := by decide +kernel
theorem dX13_countingAt_57 : decode cX13_countingAt 57 = .ok (.aload_n 0, 1) := by decide +kernel
theorem dX13_countingAt_58 : decode cX13_countingAt 58 = .ok (.iload 6, 2) := by decide +kernel
theorem dX13_countingAt_60 : decode cX13_countingAt 60 = .ok (.iconst 0, 1) := by decide +kernel
theorem dX13_countingAt_61 : decode cX13_countingAt 61 = .ok (.invokevirtual 218, 3) := by decide +kernel
theorem dX13_countingAt_64 : decode cX13_countingAt 64 = .ok (.iload_n 1, 1) := by decide +kernel
theorem dX13_countingAt_65 : decode cX13_countingAt 65 = .ok (.if_icmp .ne 28, 3) := by decide +kernel
theorem dX13_countingAt_68 : decode cX13_countingAt 68 = .ok (.aload_n 0, 1) := by decide +kernel
theorem dX13_countingAt_69 : decode cX13_countingAt 69 = .ok (.iload 6, 2) := by decide +kernel
theorem dX13_countingAt_71 : decode cX13_countingAt 71 = .ok (.iload 4, 2) := by decide +kernel
theorem dX13_countingAt_73 : decode cX13_countingAt 73 = .ok (.invokevirtual 251, 3) := by decide +kernel
theorem dX13_countingAt_76 : decode cX13_countingAt 76 = .ok (.ifCond .eq 17, 3) := by decide +kernel
theorem dX13_countingAt_79 : decode cX13_countingAt 79 = .ok (.aload_n 0, 1) := by decide +kernel
theorem dX13_countingAt_80 : decode cX13_countingAt 80 = .ok (.iload 6, 2) := by decide +kernel
theorem dX13_countingAt_82 : decode cX13_countingAt 82 = .ok (.iload_n 2, 1) := by decide +kernel
theorem dX13_countingAt_83 : decode cX13_countingAt 83 = .ok (.invokevirtual 263, 3) := by decide +kernel
theorem dX13_countingAt_86 : decode cX13_countingAt 86 = .ok (.ifCond .ne 7, 3) := by decide +kernel
theorem dX13_countingAt_89 : decode cX13_countingAt 89 = .ok (.iconst 1, 1) := by decide +kernel
theorem dX13_countingAt_90 : decode cX13_countingAt 90 = .ok (.goto 4, 3) := by decide +kernel
theorem dX13_countingAt_93 : decode cX13_countingAt 93 = .ok (.iconst 0, 1) := by decide +kernel
theorem dX13_countingAt_94 : decode cX13_countingAt 94 = .ok (.iadd, 1) := by decide +kernel
theorem dX13_countingAt_95 : decode cX13_countingAt 95 = .ok (.istore 5, 2) := by decide +kernel
theorem dX13_countingAt_97 : decode cX13_countingAt 97 = .ok (.iinc 6 1, 3) := by decide +kernel
theorem dX13_countingAt_100 : decode cX13_countingAt 100 = .ok (.goto (-56), 3) := by decide +kernel
theorem dX13_countingAt_103 : decode cX13_countingAt 103 = .ok (.iload 5, 2) := by decide +kernel
theorem dX13_countingAt_105 : decode cX13_countingAt 105 = .ok (.iload_n 3, 1) := by decide +kernel
theorem dX13_countingAt_106 : decode cX13_countingAt 106 = .ok (.if_icmp .ne 6, 3) := by decide +kernel
theorem dX13_countingAt_109 : decode cX13_countingAt 109 = .ok (.iload 4, 2) := by decide +kernel
theorem dX13_countingAt_111 : decode cX13_countingAt 111 = .ok (.ireturn, 1) := by decide +kernel
theorem dX13_countingAt_112 : decode cX13_countingAt 112 = .ok (.iinc 4 1, 3) := by decide +kernel
theorem dX13_countingAt_115 : decode cX13_countingAt 115 = .ok (.goto (-112), 3) := by decide +kernel
theorem dX13_countingAt_118 : decode cX13_countingAt 118 = .ok (.bipush (-2), 2) := by decide +kernel
theorem dX13_countingAt_120 : decode cX13_countingAt 120 = .ok (.ireturn, 1) := by decide +kernel
theorem dX13_counting_0 : decode cX13_counting 0 = .ok (.aload_n 0, 1) := by decide +kernel
theorem dX13_counting_1 : decode cX13_counting 1 = .ok (.iconst 0, 1) := by decide +kernel
theorem dX13_counting_2 : decode cX13_counting 2 = .ok (.putfield 61, 3) := by decide +kernel
theorem dX13_counting_5 : decode cX13_counting 5 = .ok (.aload_n 0, 1) := by decide +kernel
theorem dX13_counting_6 : decode cX13_counting 6 = .ok (.iload_n 1, 1) := by decide +kernel
theorem dX13_counting_7 : decode cX13_counting 7 = .ok (.invokevirtual 206, 3) := by decide +kernel
theorem dX13_counting_10 : decode cX13_counting 10 = .ok (.ifCond .eq 25, 3) := by decide +kernel
theorem dX13_counting_13 : decode cX13_counting 13 = .ok (.aload_n 0, 1) := by decide +kernel
theorem dX13_counting_14 : decode cX13_counting 14 = .ok (.iload_n 2, 1) := by decide +kernel
theorem dX13_counting_15 : decode cX13_counting 15 = .ok (.invokevirtual 221, 3) := by decide +kernel
theorem dX13_counting_18 : decode cX13_counting 18 = .ok (.ifCond .eq 17, 3) := by decide +kernel
theorem dX13_counting_21 : decode cX13_counting 21 = .ok (.iload_n 3, 1) := by decide +kernel
theorem dX13_counting_22 : decode cX13_counting 22 = .ok (.ifCond .lt 13, 3) := by decide +kernel
theorem dX13_counting_25 : decode cX13_counting 25 = .ok (.aload_n 0, 1) := by decide +kernel
theorem dX13_counting_26 : decode cX13_counting 26 = .ok (.iload_n 1, 1) := by decide +kernel
theorem dX13_counting_27 : decode cX13_counting 27 = .ok (.iload_n 2, 1) := by decide +kernel
theorem dX13_counting_28 : decode cX13_counting 28 = .ok (.iload_n 3, 1) := by decide +kernel
theorem dX13_counting_29 : decode cX13_counting 29 = .ok (.invokevirtual 266, 3) := by decide +kernel
theorem dX13_counting_32 : decode cX13_counting 32 = .ok (.goto 4, 3) := by decide +kernel
theorem dX13_counting_35 : decode cX13_counting 35 = .ok (.iconst (-1), 1) := by decide +kernel
theorem dX13_counting_36 : decode cX13_counting 36 = .ok (.ireturn, 1) := by decide +kernel
theorem dX13_mayTake_0 : decode cX13_mayTake 0 = .ok (.iload_n 3, 1) := by decide +kernel
theorem dX13_mayTake_1 : decode cX13_mayTake 1 = .ok (.bipush (-2), 2) := by decide +kernel
theorem dX13_mayTake_3 : decode cX13_mayTake 3 = .ok (.if_icmp .eq 13, 3) := by decide +kernel
theorem dX13_mayTake_6 : decode cX13_mayTake 6 = .ok (.aload_n 0, 1) := by decide +kernel
theorem dX13_mayTake_7 : decode cX13_mayTake 7 = .ok (.iload_n 3, 1) := by decide +kernel
theorem dX13_mayTake_8 : decode cX13_mayTake 8 = .ok (.iload 4, 2) := by decide +kernel
theorem dX13_mayTake_10 : decode cX13_mayTake 10 = .ok (.invokevirtual 233, 3) := by decide +kernel
theorem dX13_mayTake_13 : decode cX13_mayTake 13 = .ok (.ifCond .ne 5, 3) := by decide +kernel
theorem dX13_mayTake_16 : decode cX13_mayTake 16 = .ok (.iconst 0, 1) := by decide +kernel
theorem dX13_mayTake_17 : decode cX13_mayTake 17 = .ok (.ireturn, 1) := by decide +kernel
theorem dX13_mayTake_18 : decode cX13_mayTake 18 = .ok (.aload_n 0, 1) := by decide +kernel
theorem dX13_mayTake_19 : decode cX13_mayTake 19 = .ok (.iload_n 1, 1) := by decide +kernel
theorem dX13_mayTake_20 : decode cX13_mayTake 20 = .ok (.iconst 4, 1) := by decide +kernel
theorem dX13_mayTake_21 : decode cX13_mayTake 21 = .ok (.invokevirtual 218, 3) := by decide +kernel
theorem dX13_mayTake_24 : decode cX13_mayTake 24 = .ok (.iconst 1, 1) := by decide +kernel
theorem dX13_mayTake_25 : decode cX13_mayTake 25 = .ok (.if_icmp .ne 34, 3) := by decide +kernel
theorem dX13_mayTake_28 : decode cX13_mayTake 28 = .ok (.aload_n 0, 1) := by decide +kernel
theorem dX13_mayTake_29 : decode cX13_mayTake 29 = .ok (.aload_n 0, 1) := by decide +kernel
theorem dX13_mayTake_30 : decode cX13_mayTake 30 = .ok (.iload_n 1, 1) := by decide +kernel
theorem dX13_mayTake_31 : decode cX13_mayTake 31 = .ok (.iconst 2, 1) := by decide +kernel
theorem dX13_mayTake_32 : decode cX13_mayTake 32 = .ok (.invokevirtual 218, 3) := by decide +kernel
theorem dX13_mayTake_35 : decode cX13_mayTake 35 = .ok (.iconst 1, 1) := by decide +kernel
theorem dX13_mayTake_36 : decode cX13_mayTake 36 = .ok (.invokevirtual 239, 3) := by decide +kernel
theorem dX13_mayTake_39 : decode cX13_mayTake 39 = .ok (.ifCond .ne 16, 3) := by decide +kernel
theorem dX13_mayTake_42 : decode cX13_mayTake 42 = .ok (.aload_n 0, 1) := by decide +kernel
theorem dX13_mayTake_43 : decode cX13_mayTake 43 = .ok (.aload_n 0, 1) := by decide +kernel
theorem dX13_mayTake_44 : decode cX13_mayTake 44 = .ok (.iload_n 2, 1) := by decide +kernel
theorem dX13_mayTake_45 : decode cX13_mayTake 45 = .ok (.invokevirtual 248, 3) := by decide +kernel
theorem dX13_mayTake_48 : decode cX13_mayTake 48 = .ok (.iconst 1, 1) := by decide +kernel
theorem dX13_mayTake_49 : decode cX13_mayTake 49 = .ok (.invokevirtual 239, 3) := by decide +kernel
theorem dX13_mayTake_52 : decode cX13_mayTake 52 = .ok (.ifCond .eq 7, 3) := by decide +kernel
theorem dX13_mayTake_55 : decode cX13_mayTake 55 = .ok (.iconst 1, 1) := by decide +kernel
theorem dX13_mayTake_56 : decode cX13_mayTake 56 = .ok (.goto 4, 3) := by decide +kernel
theorem dX13_mayTake_59 : decode cX13_mayTake 59 = .ok (.iconst 0, 1) := by decide +kernel
theorem dX13_mayTake_60 : decode cX13_mayTake 60 = .ok (.istore 5, 2) := by decide +kernel
theorem dX13_mayTake_62 : decode cX13_mayTake 62 = .ok (.aload_n 0, 1) := by decide +kernel
theorem dX13_mayTake_63 : decode cX13_mayTake 63 = .ok (.getfield 25, 3) := by decide +kernel
theorem dX13_mayTake_66 : decode cX13_mayTake 66 = .ok (.bipush 22, 2) := by decide +kernel
theorem dX13_mayTake_68 : decode cX13_mayTake 68 = .ok (.iload_n 1, 1) := by decide +kernel
theorem dX13_mayTake_69 : decode cX13_mayTake 69 = .ok (.iadd, 1) := by decide +kernel
theorem dX13_mayTake_70 : decode cX13_mayTake 70 = .ok (.iaload, 1) := by decide +kernel
theorem dX13_mayTake_71 : decode cX13_mayTake 71 = .ok (.iload_n 3, 1) := by decide +kernel
theorem dX13_mayTake_72 : decode cX13_mayTake 72 = .ok (.ishr, 1) := by decide +kernel
theorem dX13_mayTake_73 : decode cX13_mayTake 73 = .ok (.iconst 1, 1) := by decide +kernel
theorem dX13_mayTake_74 : decode cX13_mayTake 74 = .ok (.iand, 1) := by decide +kernel
theorem dX13_mayTake_75 : decode cX13_mayTake 75 = .ok (.ifCond .eq 8, 3) := by decide +kernel
theorem dX13_mayTake_78 : decode cX13_mayTake 78 = .ok (.iload 5, 2) := by decide +kernel
theorem dX13_mayTake_80 : decode cX13_mayTake 80 = .ok (.ifCond .eq 7, 3) := by decide +kernel
theorem dX13_mayTake_83 : decode cX13_mayTake 83 = .ok (.iconst 1, 1) := by decide +kernel
theorem dX13_mayTake_84 : decode cX13_mayTake 84 = .ok (.goto 4, 3) := by decide +kernel
theorem dX13_mayTake_87 : decode cX13_mayTake 87 = .ok (.iconst 0, 1) := by decide +kernel
theorem dX13_mayTake_88 : decode cX13_mayTake 88 = .ok (.ireturn, 1) := by decide +kernel
theorem dX13_takerBy_0 : decode cX13_takerBy 0 = .ok (.iconst 0, 1) := by decide +kernel
theorem dX13_takerBy_1 : decode cX13_takerBy 1 = .ok (.istore 5, 2) := by decide +kernel
theorem dX13_takerBy_3 : decode cX13_takerBy 3 = .ok (.iload 5, 2) := by decide +kernel
theorem dX13_takerBy_5 : decode cX13_takerBy 5 = .ok (.aload_n 0, 1) := by decide +kernel
theorem dX13_takerBy_6 : decode cX13_takerBy 6 = .ok (.iload_n 1, 1) := by decide +kernel
theorem dX13_takerBy_7 : decode cX13_takerBy 7 = .ok (.iconst 5, 1) := by decide +kernel
theorem dX13_takerBy_8 : decode cX13_takerBy 8 = .ok (.invokevirtual 218, 3) := by decide +kernel
theorem dX13_takerBy_11 : decode cX13_takerBy 11 = .ok (.if_icmp .ge 143, 3) := by decide +kernel
theorem dX13_takerBy_14 : decode cX13_takerBy 14 = .ok (.sipush 142, 3) := by decide +kernel
theorem dX13_takerBy_17 : decode cX13_takerBy 17 = .ok (.iconst 5, 1) := by decide +kernel
theorem dX13_takerBy_18 : decode cX13_takerBy 18 = .ok (.bipush 6, 2) := by decide +kernel
theorem dX13_takerBy_20 : decode cX13_takerBy 20 = .ok (.iload_n 1, 1) := by decide +kernel
theorem dX13_takerBy_21 : decode cX13_takerBy 21 = .ok (.imul, 1) := by decide +kernel
theorem dX13_takerBy_22 : decode cX13_takerBy 22 = .ok (.iload 5, 2) := by decide +kernel
theorem dX13_takerBy_24 : decode cX13_takerBy 24 = .ok (.iadd, 1) := by decide +kernel
theorem dX13_takerBy_25 : decode cX13_takerBy 25 = .ok (.imul, 1) := by decide +kernel
theorem dX13_takerBy_26 : decode cX13_takerBy 26 = .ok (.iadd, 1) := by decide +kernel
theorem dX13_takerBy_27 : decode cX13_takerBy 27 = .ok (.istore 6, 2) := by decide +kernel
theorem dX13_takerBy_29 : decode cX13_takerBy 29 = .ok (.aload_n 0, 1) := by decide +kernel
theorem dX13_takerBy_30 : decode cX13_takerBy 30 = .ok (.getfield 13, 3) := by decide +kernel
theorem dX13_takerBy_33 : decode cX13_takerBy 33 = .ok (.iload 6, 2) := by decide +kernel
theorem dX13_takerBy_35 : decode cX13_takerBy 35 = .ok (.iaload, 1) := by decide +kernel
theorem dX13_takerBy_36 : decode cX13_takerBy 36 = .ok (.iload_n 2, 1) := by decide +kernel
theorem dX13_takerBy_37 : decode cX13_takerBy 37 = .ok (.if_icmp .eq 6, 3) := by decide +kernel
theorem dX13_takerBy_40 : decode cX13_takerBy 40 = .ok (.goto 108, 3) := by decide +kernel
theorem dX13_takerBy_43 : decode cX13_takerBy 43 = .ok (.aload_n 0, 1) := by decide +kernel
theorem dX13_takerBy_44 : decode cX13_takerBy 44 = .ok (.getfield 13, 3) := by decide +kernel
theorem dX13_takerBy_47 : decode cX13_takerBy 47 = .ok (.iload 6, 2) := by decide +kernel
theorem dX13_takerBy_49 : decode cX13_takerBy 49 = .ok (.iconst 2, 1) := by decide +kernel
theorem dX13_takerBy_50 : decode cX13_takerBy 50 = .ok (.iadd, 1) := by decide +kernel
theorem dX13_takerBy_51 : decode cX13_takerBy 51 = .ok (.iaload, 1) := by decide +kernel
theorem dX13_takerBy_52 : decode cX13_takerBy 52 = .ok (.istore 7, 2) := by decide +kernel
theorem dX13_takerBy_54 : decode cX13_takerBy 54 = .ok (.iload 7, 2) := by decide +kernel
theorem dX13_takerBy_56 : decode cX13_takerBy 56 = .ok (.ifCond .le 34, 3) := by decide +kernel
theorem dX13_takerBy_59 : decode cX13_takerBy 59 = .ok (.aload_n 0, 1) := by decide +kernel
theorem dX13_takerBy_60 : decode cX13_takerBy 60 = .ok (.aload_n 0, 1) := by decide +kernel
theorem dX13_takerBy_61 : decode cX13_takerBy 61 = .ok (.getfield 13, 3) := by decide +kernel
theorem dX13_takerBy_64 : decode cX13_takerBy 64 = .ok (.iload 6, 2) := by decide +kernel
theorem dX13_takerBy_66 : decode cX13_takerBy 66 = .ok (.iconst 3, 1) := by decide +kernel
theorem dX13_takerBy_67 : decode cX13_takerBy 67 = .ok (.iadd, 1) := by decide +kernel
theorem dX13_takerBy_68 : decode cX13_takerBy 68 = .ok (.iaload, 1) := by decide +kernel
theorem dX13_takerBy_69 : decode cX13_takerBy 69 = .ok (.iload_n 3, 1) := by decide +kernel
theorem dX13_takerBy_70 : decode cX13_takerBy 70 = .ok (.invokevirtual 233, 3) := by decide +kernel
theorem dX13_takerBy_73 : decode cX13_takerBy 73 = .ok (.iload 7, 2) := by decide +kernel
theorem dX13_takerBy_75 : decode cX13_takerBy 75 = .ok (.iconst 1, 1) := by decide +kernel
theorem dX13_takerBy_76 : decode cX13_takerBy 76 = .ok (.if_icmp .ne 7, 3) := by decide +kernel
theorem dX13_takerBy_79 : decode cX13_takerBy 79 = .ok (.iconst 1, 1) := by decide +kernel
theorem dX13_takerBy_80 : decode cX13_takerBy 80 = .ok (.goto 4, 3) := by decide +kernel
theorem dX13_takerBy_83 : decode cX13_takerBy 83 = .ok (.iconst 0, 1) := by decide +kernel
theorem dX13_takerBy_84 : decode cX13_takerBy 84 = .ok (.if_icmp .eq 6, 3) := by decide +kernel
theorem dX13_takerBy_87 : decode cX13_takerBy 87 = .ok (.goto 61, 3) := by decide +kernel
theorem dX13_takerBy_90 : decode cX13_takerBy 90 = .ok (.aload_n 0, 1) := by decide +kernel
theorem dX13_takerBy_91 : decode cX13_takerBy 91 = .ok (.iload_n 1, 1) := by decide +kernel
theorem dX13_takerBy_92 : decode cX13_takerBy 92 = .ok (.iload_n 2, 1) := by decide +kernel
theorem dX13_takerBy_93 : decode cX13_takerBy 93 = .ok (.aload_n 0, 1) := by decide +kernel
theorem dX13_takerBy_94 : decode cX13_takerBy 94 = .ok (.getfield 13, 3) := by decide +kernel
theorem dX13_takerBy_97 : decode cX13_takerBy 97 = .ok (.iload 6, 2) := by decide +kernel
theorem dX13_takerBy_99 : decode cX13_takerBy 99 = .ok (.iconst 1, 1) := by decide +kernel
theorem dX13_takerBy_100 : decode cX13_takerBy 100 = .ok (.iadd, 1) := by decide +kernel
theorem dX13_takerBy_101 : decode cX13_takerBy 101 = .ok (.iaload, 1) := by decide +kernel
theorem dX13_takerBy_102 : decode cX13_takerBy 102 = .ok (.iload_n 3, 1) := by decide +kernel
theorem dX13_takerBy_103 : decode cX13_takerBy 103 = .ok (.invokevirtual 270, 3) := by decide +kernel
theorem dX13_takerBy_106 : decode cX13_takerBy 106 = .ok (.ifCond .eq 13, 3) := by decide +kernel
theorem dX13_takerBy_109 : decode cX13_takerBy 109 = .ok (.aload_n 0, 1) := by decide +kernel
theorem dX13_takerBy_110 : decode cX13_takerBy 110 = .ok (.getfield 13, 3) := by decide +kernel
theorem dX13_takerBy_113 : decode cX13_takerBy 113 = .ok (.iload 6, 2) := by decide +kernel
theorem dX13_takerBy_115 : decode cX13_takerBy 115 = .ok (.iconst 1, 1) := by decide +kernel
theorem dX13_takerBy_116 : decode cX13_takerBy 116 = .ok (.iadd, 1) := by decide +kernel
theorem dX13_takerBy_117 : decode cX13_takerBy 117 = .ok (.iaload, 1) := by decide +kernel
theorem dX13_takerBy_118 : decode cX13_takerBy 118 = .ok (.ireturn, 1) := by decide +kernel
theorem dX13_takerBy_119 : decode cX13_takerBy 119 = .ok (.aload_n 0, 1) := by decide +kernel
theorem dX13_takerBy_120 : decode cX13_takerBy 120 = .ok (.iload_n 1, 1) := by decide +kernel
theorem dX13_takerBy_121 : decode cX13_takerBy 121 = .ok (.iload_n 2, 1) := by decide +kernel
theorem dX13_takerBy_122 : decode cX13_takerBy 122 = .ok (.aload_n 0, 1) := by decide +kernel
theorem dX13_takerBy_123 : decode cX13_takerBy 123 = .ok (.getfield 13, 3) := by decide +kernel
theorem dX13_takerBy_126 : decode cX13_takerBy 126 = .ok (.iload 6, 2) := by decide +kernel
theorem dX13_takerBy_128 : decode cX13_takerBy 128 = .ok (.iconst 4, 1) := by decide +kernel
theorem dX13_takerBy_129 : decode cX13_takerBy 129 = .ok (.iadd, 1) := by decide +kernel
theorem dX13_takerBy_130 : decode cX13_takerBy 130 = .ok (.iaload, 1) := by decide +kernel
theorem dX13_takerBy_131 : decode cX13_takerBy 131 = .ok (.iload_n 3, 1) := by decide +kernel
theorem dX13_takerBy_132 : decode cX13_takerBy 132 = .ok (.invokevirtual 270, 3) := by decide +kernel
theorem dX13_takerBy_135 : decode cX13_takerBy 135 = .ok (.ifCond .eq 13, 3) := by decide +kernel
theorem dX13_takerBy_138 : decode cX13_takerBy 138 = .ok (.aload_n 0, 1) := by decide +kernel
theorem dX13_takerBy_139 : decode cX13_takerBy 139 = .ok (.getfield 13, 3) := by decide +kernel
theorem dX13_takerBy_142 : decode cX13_takerBy 142 = .ok (.iload 6, 2) := by decide +kernel
theorem dX13_takerBy_144 : decode cX13_takerBy 144 = .ok (.iconst 4, 1) := by decide +kernel
theorem dX13_takerBy_145 : decode cX13_takerBy 145 = .ok (.iadd, 1) := by decide +kernel
theorem dX13_takerBy_146 : decode cX13_takerBy 146 = .ok (.iaload, 1) := by decide +kernel
theorem dX13_takerBy_147 : decode cX13_takerBy 147 = .ok (.ireturn, 1) := by decide +kernel
theorem dX13_takerBy_148 : decode cX13_takerBy 148 = .ok (.iinc 5 1, 3) := by decide +kernel
theorem dX13_takerBy_151 : decode cX13_takerBy 151 = .ok (.goto (-148), 3) := by decide +kernel
theorem dX13_takerBy_154 : decode cX13_takerBy 154 = .ok (.iload 4, 2) := by decide +kernel
theorem dX13_takerBy_156 : decode cX13_takerBy 156 = .ok (.ireturn, 1) := by decide +kernel
theorem dX13_laysTaker_0 : decode cX13_laysTaker 0 = .ok (.aload_n 0, 1) := by decide +kernel
theorem dX13_laysTaker_1 : decode cX13_laysTaker 1 = .ok (.bipush (-2), 2) := by decide +kernel
theorem dX13_laysTaker_3 : decode cX13_laysTaker 3 = .ok (.putfield 274, 3) := by decide +kernel
theorem dX13_laysTaker_6 : decode cX13_laysTaker 6 = .ok (.aload_n 0, 1) := by decide +kernel
theorem dX13_laysTaker_7 : decode cX13_laysTaker 7 = .ok (.bipush (-2), 2) := by decide +kernel
theorem dX13_laysTaker_9 : decode cX13_laysTaker 9 = .ok (.putfield 277, 3) := by decide +kernel
theorem dX13_laysTaker_12 : decode cX13_laysTaker 12 = .ok (.aload_n 0, 1) := by decide +kernel
theorem dX13_laysTaker_13 : decode cX13_laysTaker 13 = .ok (.iload_n 1, 1) := by decide +kernel
theorem dX13_laysTaker_14 : decode cX13_laysTaker 14 = .ok (.invokevirtual 203, 3) := by decide +kernel
theorem dX13_laysTaker_17 : decode cX13_laysTaker 17 = .ok (.istore_n 3, 1) := by decide +kernel
theorem dX13_laysTaker_18 : decode cX13_laysTaker 18 = .ok (.iconst 0, 1) := by decide +kernel
theorem dX13_laysTaker_19 : decode cX13_laysTaker 19 = .ok (.istore 4, 2) := by decide +kernel
theorem dX13_laysTaker_21 : decode cX13_laysTaker 21 = .ok (.aload_n 0, 1) := by decide +kernel
theorem dX13_laysTaker_22 : decode cX13_laysTaker 22 = .ok (.getfield 274, 3) := by decide +kernel
theorem dX13_laysTaker_25 : decode cX13_laysTaker 25 = .ok (.bipush (-2), 2) := by decide +kernel
theorem dX13_laysTaker_27 : decode cX13_laysTaker 27 = .ok (.if_icmp .ne 50, 3) := by decide +kernel
theorem dX13_laysTaker_30 : decode cX13_laysTaker 30 = .ok (.aload_n 0, 1) := by decide +kernel
theorem dX13_laysTaker_31 : decode cX13_laysTaker 31 = .ok (.iload_n 1, 1) := by decide +kernel
theorem dX13_laysTaker_32 : decode cX13_laysTaker 32 = .ok (.iload_n 2, 1) := by decide +kernel
theorem dX13_laysTaker_33 : decode cX13_laysTaker 33 = .ok (.iload 4, 2) := by decide +kernel
theorem dX13_laysTaker_35 : decode cX13_laysTaker 35 = .ok (.invokevirtual 266, 3) := by decide +kernel
theorem dX13_laysTaker_38 : decode cX13_laysTaker 38 = .ok (.bipush (-2), 2) := by decide +kernel
theorem dX13_laysTaker_40 : decode cX13_laysTaker 40 = .ok (.if_icmp .eq 37, 3) := by decide +kernel
theorem dX13_laysTaker_43 : decode cX13_laysTaker 43 = .ok (.aload_n 0, 1) := by decide +kernel
theorem dX13_laysTaker_44 : decode cX13_laysTaker 44 = .ok (.aload_n 0, 1) := by decide +kernel
theorem dX13_laysTaker_45 : decode cX13_laysTaker 45 = .ok (.iload_n 1, 1) := by decide +kernel
theorem dX13_laysTaker_46 : decode cX13_laysTaker 46 = .ok (.iload_n 2, 1) := by decide +kernel
theorem dX13_laysTaker_47 : decode cX13_laysTaker 47 = .ok (.iload 4, 2) := by decide +kernel
theorem dX13_laysTaker_49 : decode cX13_laysTaker 49 = .ok (.invokevirtual 266, 3) := by decide +kernel
theorem dX13_laysTaker_52 : decode cX13_laysTaker 52 = .ok (.putfield 277, 3) := by decide +kernel
theorem dX13_laysTaker_55 : decode cX13_laysTaker 55 = .ok (.aload_n 0, 1) := by decide +kernel
theorem dX13_laysTaker_56 : decode cX13_laysTaker 56 = .ok (.aload_n 0, 1) := by decide +kernel
theorem dX13_laysTaker_57 : decode cX13_laysTaker 57 = .ok (.aload_n 0, 1) := by decide +kernel
theorem dX13_laysTaker_58 : decode cX13_laysTaker 58 = .ok (.getfield 277, 3) := by decide +kernel
theorem dX13_laysTaker_61 : decode cX13_laysTaker 61 = .ok (.iload_n 2, 1) := by decide +kernel
theorem dX13_laysTaker_62 : decode cX13_laysTaker 62 = .ok (.iload_n 3, 1) := by decide +kernel
theorem dX13_laysTaker_63 : decode cX13_laysTaker 63 = .ok (.bipush (-2), 2) := by decide +kernel
theorem dX13_laysTaker_65 : decode cX13_laysTaker 65 = .ok (.invokevirtual 280, 3) := by decide +kernel
theorem dX13_laysTaker_68 : decode cX13_laysTaker 68 = .ok (.putfield 274, 3) := by decide +kernel
theorem dX13_laysTaker_71 : decode cX13_laysTaker 71 = .ok (.iinc 4 1, 3) := by decide +kernel
theorem dX13_laysTaker_74 : decode cX13_laysTaker 74 = .ok (.goto (-53), 3) := by decide +kernel
theorem dX13_laysTaker_77 : decode cX13_laysTaker 77 = .ok (.iconst 0, 1) := by decide +kernel
theorem dX13_laysTaker_78 : decode cX13_laysTaker 78 = .ok (.istore 4, 2) := by decide +kernel
theorem dX13_laysTaker_80 : decode cX13_laysTaker 80 = .ok (.aload_n 0, 1) := by decide +kernel
theorem dX13_laysTaker_81 : decode cX13_laysTaker 81 = .ok (.getfield 274, 3) := by decide +kernel
theorem dX13_laysTaker_84 : decode cX13_laysTaker 84 = .ok (.bipush (-2), 2) := by decide +kernel
theorem dX13_laysTaker_86 : decode cX13_laysTaker 86 = .ok (.if_icmp .ne 71, 3) := by decide +kernel
theorem dX13_laysTaker_89 : decode cX13_laysTaker 89 = .ok (.aload_n 0, 1) := by decide +kernel
theorem dX13_laysTaker_90 : decode cX13_laysTaker 90 = .ok (.iload_n 1, 1) := by decide +kernel
theorem dX13_laysTaker_91 : decode cX13_laysTaker 91 = .ok (.iload_n 2, 1) := by decide +kernel
theorem dX13_laysTaker_92 : decode cX13_laysTaker 92 = .ok (.iload 4, 2) := by decide +kernel
theorem dX13_laysTaker_94 : decode cX13_laysTaker 94 = .ok (.invokevirtual 266, 3) := by decide +kernel
theorem dX13_laysTaker_97 : decode cX13_laysTaker 97 = .ok (.bipush (-2), 2) := by decide +kernel
theorem dX13_laysTaker_99 : decode cX13_laysTaker 99 = .ok (.if_icmp .eq 58, 3) := by decide +kernel
theorem dX13_laysTaker_102 : decode cX13_laysTaker 102 = .ok (.aload_n 0, 1) := by decide +kernel
theorem dX13_laysTaker_103 : decode cX13_laysTaker 103 = .ok (.aload_n 0, 1) := by decide +kernel
theorem dX13_laysTaker_104 : decode cX13_laysTaker 104 = .ok (.iload_n 1, 1) := by decide +kernel
theorem dX13_laysTaker_105 : decode cX13_laysTaker 105 = .ok (.iload_n 2, 1) := by decide +kernel
theorem dX13_laysTaker_106 : decode cX13_laysTaker 106 = .ok (.iload 4, 2) := by decide +kernel
theorem dX13_laysTaker_108 : decode cX13_laysTaker 108 = .ok (.invokevirtual 266, 3) := by decide +kernel
theorem dX13_laysTaker_111 : decode cX13_laysTaker 111 = .ok (.putfield 277, 3) := by decide +kernel
theorem dX13_laysTaker_114 : decode cX13_laysTaker 114 = .ok (.aload_n 0, 1) := by decide +kernel
theorem dX13_laysTaker_115 : decode cX13_laysTaker 115 = .ok (.aload_n 0, 1) := by decide +kernel
theorem dX13_laysTaker_116 : decode cX13_laysTaker 116 = .ok (.getfield 277, 3) := by decide +kernel
theorem dX13_laysTaker_119 : decode cX13_laysTaker 119 = .ok (.iload_n 2, 1) := by decide +kernel
theorem dX13_laysTaker_120 : decode cX13_laysTaker 120 = .ok (.aload_n 0, 1) := by decide +kernel
theorem dX13_laysTaker_121 : decode cX13_laysTaker 121 = .ok (.aload_n 0, 1) := by decide +kernel
theorem dX13_laysTaker_122 : decode cX13_laysTaker 122 = .ok (.getfield 277, 3) := by decide +kernel
theorem dX13_laysTaker_125 : decode cX13_laysTaker 125 = .ok (.bipush 6, 2) := by decide +kernel
theorem dX13_laysTaker_127 : decode cX13_laysTaker 127 = .ok (.invokevirtual 218, 3) := by decide +kernel
theorem dX13_laysTaker_130 : decode cX13_laysTaker 130 = .ok (.iload_n 3, 1) := by decide +kernel
theorem dX13_laysTaker_131 : decode cX13_laysTaker 131 = .ok (.invokevirtual 270, 3) := by decide +kernel
theorem dX13_laysTaker_134 : decode cX13_laysTaker 134 = .ok (.ifCond .eq 17, 3) := by decide +kernel
theorem dX13_laysTaker_137 : decode cX13_laysTaker 137 = .ok (.aload_n 0, 1) := by decide +kernel
theorem dX13_laysTaker_138 : decode cX13_laysTaker 138 = .ok (.aload_n 0, 1) := by decide +kernel
theorem dX13_laysTaker_139 : decode cX13_laysTaker 139 = .ok (.aload_n 0, 1) := by decide +kernel
theorem dX13_laysTaker_140 : decode cX13_laysTaker 140 = .ok (.getfield 277, 3) := by decide +kernel
theorem dX13_laysTaker_143 : decode cX13_laysTaker 143 = .ok (.bipush 6, 2) := by decide +kernel
theorem dX13_laysTaker_145 : decode cX13_laysTaker 145 = .ok (.invokevirtual 218, 3) := by decide +kernel
theorem dX13_laysTaker_148 : decode cX13_laysTaker 148 = .ok (.putfield 274, 3) := by decide +kernel
theorem dX13_laysTaker_151 : decode cX13_laysTaker 151 = .ok (.iinc 4 1, 3) := by decide +kernel
theorem dX13_laysTaker_154 : decode cX13_laysTaker 154 = .ok (.goto (-74), 3) := by decide +kernel
theorem dX13_laysTaker_157 : decode cX13_laysTaker 157 = .ok (.aload_n 0, 1) := by decide +kernel
theorem dX13_laysTaker_158 : decode cX13_laysTaker 158 = .ok (.aload_n 0, 1) := by decide +kernel
theorem dX13_laysTaker_159 : decode cX13_laysTaker 159 = .ok (.getfield 274, 3) := by decide +kernel
theorem dX13_laysTaker_162 : decode cX13_laysTaker 162 = .ok (.bipush (-2), 2) := by decide +kernel
theorem dX13_laysTaker_164 : decode cX13_laysTaker 164 = .ok (.if_icmp .ne 8, 3) := by decide +kernel
theorem dX13_laysTaker_167 : decode cX13_laysTaker 167 = .ok (.bipush (-2), 2) := by decide +kernel
theorem dX13_laysTaker_169 : decode cX13_laysTaker 169 = .ok (.goto 7, 3) := by decide +kernel
theorem dX13_laysTaker_172 : decode cX13_laysTaker 172 = .ok (.aload_n 0, 1) := by decide +kernel
theorem dX13_laysTaker_173 : decode cX13_laysTaker 173 = .ok (.getfield 277, 3) := by decide +kernel
theorem dX13_laysTaker_176 : decode cX13_laysTaker 176 = .ok (.putfield 277, 3) := by decide +kernel
theorem dX13_laysTaker_179 : decode cX13_laysTaker 179 = .ok (.return_, 1) := by decide +kernel
theorem dX13_taker_0 : decode cX13_taker 0 = .ok (.aload_n 0, 1) := by decide +kernel
theorem dX13_taker_1 : decode cX13_taker 1 = .ok (.iconst 0, 1) := by decide +kernel
theorem dX13_taker_2 : decode cX13_taker 2 = .ok (.putfield 61, 3) := by decide +kernel
theorem dX13_taker_5 : decode cX13_taker 5 = .ok (.aload_n 0, 1) := by decide +kernel
theorem dX13_taker_6 : decode cX13_taker 6 = .ok (.iload_n 1, 1) := by decide +kernel
theorem dX13_taker_7 : decode cX13_taker 7 = .ok (.invokevirtual 206, 3) := by decide +kernel
theorem dX13_taker_10 : decode cX13_taker 10 = .ok (.ifCond .eq 11, 3) := by decide +kernel
theorem dX13_taker_13 : decode cX13_taker 13 = .ok (.aload_n 0, 1) := by decide +kernel
theorem dX13_taker_14 : decode cX13_taker 14 = .ok (.iload_n 2, 1) := by decide +kernel
theorem dX13_taker_15 : decode cX13_taker 15 = .ok (.invokevirtual 221, 3) := by decide +kernel
theorem dX13_taker_18 : decode cX13_taker 18 = .ok (.ifCond .ne 5, 3) := by decide +kernel
theorem dX13_taker_21 : decode cX13_taker 21 = .ok (.iconst (-1), 1) := by decide +kernel
theorem dX13_taker_22 : decode cX13_taker 22 = .ok (.ireturn, 1) := by decide +kernel
theorem dX13_taker_23 : decode cX13_taker 23 = .ok (.aload_n 0, 1) := by decide +kernel
theorem dX13_taker_24 : decode cX13_taker 24 = .ok (.iload_n 1, 1) := by decide +kernel
theorem dX13_taker_25 : decode cX13_taker 25 = .ok (.invokevirtual 203, 3) := by decide +kernel
theorem dX13_taker_28 : decode cX13_taker 28 = .ok (.bipush (-2), 2) := by decide +kernel
theorem dX13_taker_30 : decode cX13_taker 30 = .ok (.if_icmp .ne 6, 3) := by decide +kernel
theorem dX13_taker_33 : decode cX13_taker 33 = .ok (.bipush (-3), 2) := by decide +kernel
theorem dX13_taker_35 : decode cX13_taker 35 = .ok (.ireturn, 1) := by decide +kernel
theorem dX13_taker_36 : decode cX13_taker 36 = .ok (.aload_n 0, 1) := by decide +kernel
theorem dX13_taker_37 : decode cX13_taker 37 = .ok (.iload_n 1, 1) := by decide +kernel
theorem dX13_taker_38 : decode cX13_taker 38 = .ok (.iload_n 2, 1) := by decide +kernel
theorem dX13_taker_39 : decode cX13_taker 39 = .ok (.invokevirtual 284, 3) := by decide +kernel
theorem dX13_taker_42 : decode cX13_taker 42 = .ok (.aload_n 0, 1) := by decide +kernel
theorem dX13_taker_43 : decode cX13_taker 43 = .ok (.getfield 274, 3) := by decide +kernel
theorem dX13_taker_46 : decode cX13_taker 46 = .ok (.ireturn, 1) := by decide +kernel
theorem dX13_takerBy__0 : decode cX13_takerBy_ 0 = .ok (.aload_n 0, 1) := by decide +kernel
theorem dX13_takerBy__1 : decode cX13_takerBy_ 1 = .ok (.iconst 0, 1) := by decide +kernel
theorem dX13_takerBy__2 : decode cX13_takerBy_ 2 = .ok (.putfield 61, 3) := by decide +kernel
theorem dX13_takerBy__5 : decode cX13_takerBy_ 5 = .ok (.aload_n 0, 1) := by decide +kernel
theorem dX13_takerBy__6 : decode cX13_takerBy_ 6 = .ok (.iload_n 1, 1) := by decide +kernel
theorem dX13_takerBy__7 : decode cX13_takerBy_ 7 = .ok (.invokevirtual 206, 3) := by decide +kernel
theorem dX13_takerBy__10 : decode cX13_takerBy_ 10 = .ok (.ifCond .eq 11, 3) := by decide +kernel
theorem dX13_takerBy__13 : decode cX13_takerBy_ 13 = .ok (.aload_n 0, 1) := by decide +kernel
theorem dX13_takerBy__14 : decode cX13_takerBy_ 14 = .ok (.iload_n 2, 1) := by decide +kernel
theorem dX13_takerBy__15 : decode cX13_takerBy_ 15 = .ok (.invokevirtual 221, 3) := by decide +kernel
theorem dX13_takerBy__18 : decode cX13_takerBy_ 18 = .ok (.ifCond .ne 5, 3) := by decide +kernel
theorem dX13_takerBy__21 : decode cX13_takerBy_ 21 = .ok (.iconst (-1), 1) := by decide +kernel
theorem dX13_takerBy__22 : decode cX13_takerBy_ 22 = .ok (.ireturn, 1) := by decide +kernel
theorem dX13_takerBy__23 : decode cX13_takerBy_ 23 = .ok (.aload_n 0, 1) := by decide +kernel
theorem dX13_takerBy__24 : decode cX13_takerBy_ 24 = .ok (.iload_n 1, 1) := by decide +kernel
theorem dX13_takerBy__25 : decode cX13_takerBy_ 25 = .ok (.invokevirtual 203, 3) := by decide +kernel
theorem dX13_takerBy__28 : decode cX13_takerBy_ 28 = .ok (.bipush (-2), 2) := by decide +kernel
theorem dX13_takerBy__30 : decode cX13_takerBy_ 30 = .ok (.if_icmp .ne 6, 3) := by decide +kernel
theorem dX13_takerBy__33 : decode cX13_takerBy_ 33 = .ok (.bipush (-3), 2) := by decide +kernel
theorem dX13_takerBy__35 : decode cX13_takerBy_ 35 = .ok (.ireturn, 1) := by decide +kernel
theorem dX13_takerBy__36 : decode cX13_takerBy_ 36 = .ok (.aload_n 0, 1) := by decide +kernel
theorem dX13_takerBy__37 : decode cX13_takerBy_ 37 = .ok (.iload_n 1, 1) := by decide +kernel
theorem dX13_takerBy__38 : decode cX13_takerBy_ 38 = .ok (.iload_n 2, 1) := by decide +kernel
theorem dX13_takerBy__39 : decode cX13_takerBy_ 39 = .ok (.invokevirtual 284, 3) := by decide +kernel
theorem dX13_takerBy__42 : decode cX13_takerBy_ 42 = .ok (.aload_n 0, 1) := by decide +kernel
theorem dX13_takerBy__43 : decode cX13_takerBy_ 43 = .ok (.getfield 277, 3) := by decide +kernel
theorem dX13_takerBy__46 : decode cX13_takerBy_ 46 = .ok (.ireturn, 1) := by decide +kernel
theorem dX13_living__0 : decode cX13_living_ 0 = .ok (.iload_n 3, 1) := by decide +kernel
theorem dX13_living__1 : decode cX13_living_ 1 = .ok (.istore 4, 2) := by decide +kernel
theorem dX13_living__3 : decode cX13_living_ 3 = .ok (.iconst 0, 1) := by decide +kernel
theorem dX13_living__4 : decode cX13_living_ 4 = .ok (.istore 5, 2) := by decide +kernel
theorem dX13_living__6 : decode cX13_living_ 6 = .ok (.iload 5, 2) := by decide +kernel
theorem dX13_living__8 : decode cX13_living_ 8 = .ok (.aload_n 0, 1) := by decide +kernel
theorem dX13_living__9 : decode cX13_living_ 9 = .ok (.getfield 13, 3) := by decide +kernel
theorem dX13_living__12 : decode cX13_living_ 12 = .ok (.iconst 0, 1) := by decide +kernel
theorem dX13_living__13 : decode cX13_living_ 13 = .ok (.iaload, 1) := by decide +kernel
theorem dX13_living__14 : decode cX13_living_ 14 = .ok (.if_icmp .ge 42, 3) := by decide +kernel
theorem dX13_living__17 : decode cX13_living_ 17 = .ok (.iload 4, 2) := by decide +kernel
theorem dX13_living__19 : decode cX13_living_ 19 = .ok (.iload_n 1, 1) := by decide +kernel
theorem dX13_living__20 : decode cX13_living_ 20 = .ok (.iload 5, 2) := by decide +kernel
theorem dX13_living__22 : decode cX13_living_ 22 = .ok (.ishr, 1) := by decide +kernel
theorem dX13_living__23 : decode cX13_living_ 23 = .ok (.iconst 1, 1) := by decide +kernel
theorem dX13_living__24 : decode cX13_living_ 24 = .ok (.iand, 1) := by decide +kernel
theorem dX13_living__25 : decode cX13_living_ 25 = .ok (.iconst 1, 1) := by decide +kernel
theorem dX13_living__26 : decode cX13_living_ 26 = .ok (.if_icmp .ne 20, 3) := by decide +kernel
theorem dX13_living__29 : decode cX13_living_ 29 = .ok (.aload_n 0, 1) := by decide +kernel
theorem dX13_living__30 : decode cX13_living_ 30 = .ok (.iload 5, 2) := by decide +kernel
theorem dX13_living__32 : decode cX13_living_ 32 = .ok (.iload_n 2, 1) := by decide +kernel
theorem dX13_living__33 : decode cX13_living_ 33 = .ok (.invokevirtual 233, 3) := by decide +kernel
theorem dX13_living__36 : decode cX13_living_ 36 = .ok (.ifCond .eq 10, 3) := by decide +kernel
theorem dX13_living__39 : decode cX13_living_ 39 = .ok (.iconst 1, 1) := by decide +kernel
theorem dX13_living__40 : decode cX13_living_ 40 = .ok (.iload 5, 2) := by decide +kernel
theorem dX13_living__42 : decode cX13_living_ 42 = .ok (.ishl, 1) := by decide +kernel
theorem dX13_living__43 : decode cX13_living_ 43 = .ok (.goto 4, 3) := by decide +kernel
theorem dX13_living__46 : decode cX13_living_ 46 = .ok (.iconst 0, 1) := by decide +kernel
theorem dX13_living__47 : decode cX13_living_ 47 = .ok (.ior, 1) := by decide +kernel
theorem dX13_living__48 : decode cX13_living_ 48 = .ok (.istore 4, 2) := by decide +kernel
theorem dX13_living__50 : decode cX13_living_ 50 = .ok (.iinc 5 1, 3) := by decide +kernel
theorem dX13_living__53 : decode cX13_living_ 53 = .ok (.goto (-47), 3) := by decide +kernel
theorem dX13_living__56 : decode cX13_living_ 56 = .ok (.iload 4, 2) := by decide +kernel
theorem dX13_living__58 : decode cX13_living_ 58 = .ok (.ireturn, 1) := by decide +kernel
theorem dX13_heirsOf_0 : decode cX13_heirsOf 0 = .ok (.aload_n 0, 1) := by decide +kernel
theorem dX13_heirsOf_1 : decode cX13_heirsOf 1 = .ok (.iload_n 1, 1) := by decide +kernel
theorem dX13_heirsOf_2 : decode cX13_heirsOf 2 = .ok (.invokevirtual 203, 3) := by decide +kernel
theorem dX13_heirsOf_5 : decode cX13_heirsOf 5 = .ok (.istore_n 2, 1) := by decide +kernel
theorem dX13_heirsOf_6 : decode cX13_heirsOf 6 = .ok (.aload_n 0, 1) := by decide +kernel
theorem dX13_heirsOf_7 : decode cX13_heirsOf 7 = .ok (.aload_n 0, 1) := by decide +kernel
theorem dX13_heirsOf_8 : decode cX13_heirsOf 8 = .ok (.iload_n 1, 1) := by decide +kernel
theorem dX13_heirsOf_9 : decode cX13_heirsOf 9 = .ok (.invokevirtual 209, 3) := by decide +kernel
theorem dX13_heirsOf_12 : decode cX13_heirsOf 12 = .ok (.iload_n 2, 1) := by decide +kernel
theorem dX13_heirsOf_13 : decode cX13_heirsOf 13 = .ok (.iconst 0, 1) := by decide +kernel
theorem dX13_heirsOf_14 : decode cX13_heirsOf 14 = .ok (.invokevirtual 288, 3) := by decide +kernel
theorem dX13_heirsOf_17 : decode cX13_heirsOf 17 = .ok (.istore_n 3, 1) := by decide +kernel
theorem dX13_heirsOf_18 : decode cX13_heirsOf 18 = .ok (.iload_n 3, 1) := by decide +kernel
theorem dX13_heirsOf_19 : decode cX13_heirsOf 19 = .ok (.ifCond .eq 5, 3) := by decide +kernel
theorem dX13_heirsOf_22 : decode cX13_heirsOf 22 = .ok (.iload_n 3, 1) := by decide +kernel
theorem dX13_heirsOf_23 : decode cX13_heirsOf 23 = .ok (.ireturn, 1) := by decide +kernel
theorem dX13_heirsOf_24 : decode cX13_heirsOf 24 = .ok (.aload_n 0, 1) := by decide +kernel
theorem dX13_heirsOf_25 : decode cX13_heirsOf 25 = .ok (.iload_n 1, 1) := by decide +kernel
theorem dX13_heirsOf_26 : decode cX13_heirsOf 26 = .ok (.iload_n 2, 1) := by decide +kernel
theorem dX13_heirsOf_27 : decode cX13_heirsOf 27 = .ok (.invokevirtual 212, 3) := by decide +kernel
theorem dX13_heirsOf_30 : decode cX13_heirsOf 30 = .ok (.istore 4, 2) := by decide +kernel
theorem dX13_heirsOf_32 : decode cX13_heirsOf 32 = .ok (.iload 4, 2) := by decide +kernel
theorem dX13_heirsOf_34 : decode cX13_heirsOf 34 = .ok (.bipush (-2), 2) := by decide +kernel
theorem dX13_heirsOf_36 : decode cX13_heirsOf 36 = .ok (.if_icmp .eq 18, 3) := by decide +kernel
theorem dX13_heirsOf_39 : decode cX13_heirsOf 39 = .ok (.aload_n 0, 1) := by decide +kernel
theorem dX13_heirsOf_40 : decode cX13_heirsOf 40 = .ok (.iload 4, 2) := by decide +kernel
theorem dX13_heirsOf_42 : decode cX13_heirsOf 42 = .ok (.iload_n 2, 1) := by decide +kernel
theorem dX13_heirsOf_43 : decode cX13_heirsOf 43 = .ok (.invokevirtual 233, 3) := by decide +kernel
theorem dX13_heirsOf_46 : decode cX13_heirsOf 46 = .ok (.ifCond .eq 8, 3) := by decide +kernel
theorem dX13_heirsOf_49 : decode cX13_heirsOf 49 = .ok (.iconst 1, 1) := by decide +kernel
theorem dX13_heirsOf_50 : decode cX13_heirsOf 50 = .ok (.iload 4, 2) := by decide +kernel
theorem dX13_heirsOf_52 : decode cX13_heirsOf 52 = .ok (.ishl, 1) := by decide +kernel
theorem dX13_heirsOf_53 : decode cX13_heirsOf 53 = .ok (.ireturn, 1) := by decide +kernel
theorem dX13_heirsOf_54 : decode cX13_heirsOf 54 = .ok (.aload_n 0, 1) := by decide +kernel
theorem dX13_heirsOf_55 : decode cX13_heirsOf 55 = .ok (.aload_n 0, 1) := by decide +kernel
theorem dX13_heirsOf_56 : decode cX13_heirsOf 56 = .ok (.getfield 13, 3) := by decide +kernel
theorem dX13_heirsOf_59 : decode cX13_heirsOf 59 = .ok (.bipush 24, 2) := by decide +kernel
theorem dX13_heirsOf_61 : decode cX13_heirsOf 61 = .ok (.iload_n 1, 1) := by decide +kernel
theorem dX13_heirsOf_62 : decode cX13_heirsOf 62 = .ok (.iadd, 1) := by decide +kernel
theorem dX13_heirsOf_63 : decode cX13_heirsOf 63 = .ok (.iaload, 1) := by decide +kernel
theorem dX13_heirsOf_64 : decode cX13_heirsOf 64 = .ok (.iload_n 2, 1) := by decide +kernel
theorem dX13_heirsOf_65 : decode cX13_heirsOf 65 = .ok (.iconst 0, 1) := by decide +kernel
theorem dX13_heirsOf_66 : decode cX13_heirsOf 66 = .ok (.invokevirtual 288, 3) := by decide +kernel
theorem dX13_heirsOf_69 : decode cX13_heirsOf 69 = .ok (.ireturn, 1) := by decide +kernel
theorem dX13_heirs_0 : decode cX13_heirs 0 = .ok (.aload_n 0, 1) := by decide +kernel
theorem dX13_heirs_1 : decode cX13_heirs 1 = .ok (.iconst 0, 1) := by decide +kernel
theorem dX13_heirs_2 : decode cX13_heirs 2 = .ok (.putfield 61, 3) := by decide +kernel
theorem dX13_heirs_5 : decode cX13_heirs 5 = .ok (.aload_n 0, 1) := by decide +kernel
theorem dX13_heirs_6 : decode cX13_heirs 6 = .ok (.iload_n 1, 1) := by decide +kernel
theorem dX13_heirs_7 : decode cX13_heirs 7 = .ok (.invokevirtual 206, 3) := by decide +kernel
theorem dX13_heirs_10 : decode cX13_heirs 10 = .ok (.ifCond .ne 5, 3) := by decide +kernel
theorem dX13_heirs_13 : decode cX13_heirs 13 = .ok (.iconst (-1), 1) := by decide +kernel
theorem dX13_heirs_14 : decode cX13_heirs 14 = .ok (.ireturn, 1) := by decide +kernel
theorem dX13_heirs_15 : decode cX13_heirs 15 = .ok (.aload_n 0, 1) := by decide +kernel
theorem dX13_heirs_16 : decode cX13_heirs 16 = .ok (.iload_n 1, 1) := by decide +kernel
theorem dX13_heirs_17 : decode cX13_heirs 17 = .ok (.invokevirtual 203, 3) := by decide +kernel
theorem dX13_heirs_20 : decode cX13_heirs 20 = .ok (.bipush (-2), 2) := by decide +kernel
theorem dX13_heirs_22 : decode cX13_heirs 22 = .ok (.if_icmp .ne 8, 3) := by decide +kernel
theorem dX13_heirs_25 : decode cX13_heirs 25 = .ok (.bipush (-3), 2) := by decide +kernel
theorem dX13_heirs_27 : decode cX13_heirs 27 = .ok (.goto 8, 3) := by decide +kernel
theorem dX13_heirs_30 : decode cX13_heirs 30 = .ok (.aload_n 0, 1) := by decide +kernel
theorem dX13_heirs_31 : decode cX13_heirs 31 = .ok (.iload_n 1, 1) := by decide +kernel
theorem dX13_heirs_32 : decode cX13_heirs 32 = .ok (.invokevirtual 290, 3) := by decide +kernel
theorem dX13_heirs_35 : decode cX13_heirs 35 = .ok (.ireturn, 1) := by decide +kernel
theorem dX13_common_0 : decode cX13_common 0 = .ok (.lload_n 0, 1) := by decide +kernel
theorem dX13_common_1 : decode cX13_common 1 = .ok (.lstore 4, 2) := by decide +kernel
theorem dX13_common_3 : decode cX13_common 3 = .ok (.lload_n 2, 1) := by decide +kernel
theorem dX13_common_4 : decode cX13_common 4 = .ok (.lstore 6, 2) := by decide +kernel
theorem dX13_common_6 : decode cX13_common 6 = .ok (.lload 6, 2) := by decide +kernel
theorem dX13_common_8 : decode cX13_common 8 = .ok (.lconst 0, 1) := by decide +kernel
theorem dX13_common_9 : decode cX13_common 9 = .ok (.lcmp, 1) := by decide +kernel
theorem dX13_common_10 : decode cX13_common 10 = .ok (.ifCond .eq 21, 3) := by decide +kernel
theorem dX13_common_13 : decode cX13_common 13 = .ok (.lload 4, 2) := by decide +kernel
theorem dX13_common_15 : decode cX13_common 15 = .ok (.lload 6, 2) := by decide +kernel
theorem dX13_common_17 : decode cX13_common 17 = .ok (.lrem, 1) := by decide +kernel
theorem dX13_common_18 : decode cX13_common 18 = .ok (.lstore 8, 2) := by decide +kernel
theorem dX13_common_20 : decode cX13_common 20 = .ok (.lload 6, 2) := by decide +kernel
theorem dX13_common_22 : decode cX13_common 22 = .ok (.lstore 4, 2) := by decide +kernel
theorem dX13_common_24 : decode cX13_common 24 = .ok (.lload 8, 2) := by decide +kernel
theorem dX13_common_26 : decode cX13_common 26 = .ok (.lstore 6, 2) := by decide +kernel
theorem dX13_common_28 : decode cX13_common 28 = .ok (.goto (-22), 3) := by decide +kernel
theorem dX13_common_31 : decode cX13_common 31 = .ok (.lload 4, 2) := by decide +kernel
theorem dX13_common_33 : decode cX13_common 33 = .ok (.lreturn, 1) := by decide +kernel
theorem dX13_comes_0 : decode cX13_comes 0 = .ok (.aload_n 0, 1) := by decide +kernel
theorem dX13_comes_1 : decode cX13_comes 1 = .ok (.getfield 49, 3) := by decide +kernel
theorem dX13_comes_4 : decode cX13_comes 4 = .ok (.iload_n 1, 1) := by decide +kernel
theorem dX13_comes_5 : decode cX13_comes 5 = .ok (.laload, 1) := by decide +kernel
theorem dX13_comes_6 : decode cX13_comes 6 = .ok (.lload 4, 2) := by decide +kernel
theorem dX13_comes_8 : decode cX13_comes 8 = .ok (.invokestatic 293, 3) := by decide +kernel
theorem dX13_comes_11 : decode cX13_comes 11 = .ok (.lstore 6, 2) := by decide +kernel
theorem dX13_comes_13 : decode cX13_comes 13 = .ok (.aload_n 0, 1) := by decide +kernel
theorem dX13_comes_14 : decode cX13_comes 14 = .ok (.getfield 45, 3) := by decide +kernel
theorem dX13_comes_17 : decode cX13_comes 17 = .ok (.iload_n 1, 1) := by decide +kernel
theorem dX13_comes_18 : decode cX13_comes 18 = .ok (.laload, 1) := by decide +kernel
theorem dX13_comes_19 : decode cX13_comes 19 = .ok (.lload 4, 2) := by decide +kernel
theorem dX13_comes_21 : decode cX13_comes 21 = .ok (.lload 6, 2) := by decide +kernel
theorem dX13_comes_23 : decode cX13_comes 23 = .ok (.ldiv, 1) := by decide +kernel
theorem dX13_comes_24 : decode cX13_comes 24 = .ok (.lmul, 1) := by decide +kernel
theorem dX13_comes_25 : decode cX13_comes 25 = .ok (.lload_n 2, 1) := by decide +kernel
theorem dX13_comes_26 : decode cX13_comes 26 = .ok (.aload_n 0, 1) := by decide +kernel
theorem dX13_comes_27 : decode cX13_comes 27 = .ok (.getfield 49, 3) := by decide +kernel
theorem dX13_comes_30 : decode cX13_comes 30 = .ok (.iload_n 1, 1) := by decide +kernel
theorem dX13_comes_31 : decode cX13_comes 31 = .ok (.laload, 1) := by decide +kernel
theorem dX13_comes_32 : decode cX13_comes 32 = .ok (.lload 6, 2) := by decide +kernel
theorem dX13_comes_34 : decode cX13_comes 34 = .ok (.ldiv, 1) := by decide +kernel
theorem dX13_comes_35 : decode cX13_comes 35 = .ok (.lmul, 1) := by decide +kernel
theorem dX13_comes_36 : decode cX13_comes 36 = .ok (.ladd, 1) := by decide +kernel
theorem dX13_comes_37 : decode cX13_comes 37 = .ok (.lstore 8, 2) := by decide +kernel
theorem dX13_comes_39 : decode cX13_comes 39 = .ok (.aload_n 0, 1) := by decide +kernel
theorem dX13_comes_40 : decode cX13_comes 40 = .ok (.getfield 49, 3) := by decide +kernel
theorem dX13_comes_43 : decode cX13_comes 43 = .ok (.iload_n 1, 1) := by decide +kernel
theorem dX13_comes_44 : decode cX13_comes 44 = .ok (.laload, 1) := by decide +kernel
theorem dX13_comes_45 : decode cX13_comes 45 = .ok (.lload 6, 2) := by decide +kernel
theorem dX13_comes_47 : decode cX13_comes 47 = .ok (.ldiv, 1) := by decide +kernel
theorem dX13_comes_48 : decode cX13_comes 48 = .ok (.lload 4, 2) := by decide +kernel
theorem dX13_comes_50 : decode cX13_comes 50 = .ok (.lmul, 1) := by decide +kernel
theorem dX13_comes_51 : decode cX13_comes 51 = .ok (.lstore 10, 2) := by decide +kernel
theorem dX13_comes_53 : decode cX13_comes 53 = .ok (.lload 8, 2) := by decide +kernel
theorem dX13_comes_55 : decode cX13_comes 55 = .ok (.lload 10, 2) := by decide +kernel
theorem dX13_comes_57 : decode cX13_comes 57 = .ok (.invokestatic 293, 3) := by decide +kernel
theorem dX13_comes_60 : decode cX13_comes 60 = .ok (.lstore 12, 2) := by decide +kernel
theorem dX13_comes_62 : decode cX13_comes 62 = .ok (.aload_n 0, 1) := by decide +kernel
theorem dX13_comes_63 : decode cX13_comes 63 = .ok (.getfield 45, 3) := by decide +kernel
theorem dX13_comes_66 : decode cX13_comes 66 = .ok (.iload_n 1, 1) := by decide +kernel
theorem dX13_comes_67 : decode cX13_comes 67 = .ok (.lload 8, 2) := by decide +kernel
theorem dX13_comes_69 : decode cX13_comes 69 = .ok (.lload 12, 2) := by decide +kernel
theorem dX13_comes_71 : decode cX13_comes 71 = .ok (.ldiv, 1) := by decide +kernel
theorem dX13_comes_72 : decode cX13_comes 72 = .ok (.lastore, 1) := by decide +kernel
theorem dX13_comes_73 : decode cX13_comes 73 = .ok (.aload_n 0, 1) := by decide +kernel
theorem dX13_comes_74 : decode cX13_comes 74 = .ok (.getfield 49, 3) := by decide +kernel
theorem dX13_comes_77 : decode cX13_comes 77 = .ok (.iload_n 1, 1) := by decide +kernel
theorem dX13_comes_78 : decode cX13_comes 78 = .ok (.lload 10, 2) := by decide +kernel
theorem dX13_comes_80 : decode cX13_comes 80 = .ok (.lload 12, 2) := by decide +kernel
theorem dX13_comes_82 : decode cX13_comes 82 = .ok (.ldiv, 1) := by decide +kernel
theorem dX13_comes_83 : decode cX13_comes 83 = .ok (.lastore, 1) := by decide +kernel
theorem dX13_comes_84 : decode cX13_comes 84 = .ok (.return_, 1) := by decide +kernel
theorem dX13_alike_0 : decode cX13_alike 0 = .ok (.iload_n 1, 1) := by decide +kernel
theorem dX13_alike_1 : decode cX13_alike 1 = .ok (.invokestatic 154, 3) := by decide +kernel
theorem dX13_alike_4 : decode cX13_alike 4 = .ok (.istore 6, 2) := by decide +kernel
theorem dX13_alike_6 : decode cX13_alike 6 = .ok (.iload 6, 2) := by decide +kernel
theorem dX13_alike_8 : decode cX13_alike 8 = .ok (.ifCond .ne 12, 3) := by decide +kernel
theorem dX13_alike_11 : decode cX13_alike 11 = .ok (.aload_n 0, 1) := by decide +kernel
theorem dX13_alike_12 : decode cX13_alike 12 = .ok (.bipush 10, 2) := by decide +kernel
theorem dX13_alike_14 : decode cX13_alike 14 = .ok (.lload_n 2, 1) := by decide +kernel
theorem dX13_alike_15 : decode cX13_alike 15 = .ok (.lload 4, 2) := by decide +kernel
theorem dX13_alike_17 : decode cX13_alike 17 = .ok (.invokevirtual 297, 3) := by decide +kernel
theorem dX13_alike_20 : decode cX13_alike 20 = .ok (.iconst 0, 1) := by decide +kernel
theorem dX13_alike_21 : decode cX13_alike 21 = .ok (.istore 7, 2) := by decide +kernel
theorem dX13_alike_23 : decode cX13_alike 23 = .ok (.iload 7, 2) := by decide +kernel
theorem dX13_alike_25 : decode cX13_alike 25 = .ok (.bipush 10, 2) := by decide +kernel
theorem dX13_alike_27 : decode cX13_alike 27 = .ok (.if_icmp .ge 32, 3) := by decide +kernel
theorem dX13_alike_30 : decode cX13_alike 30 = .ok (.iload_n 1, 1) := by decide +kernel
theorem dX13_alike_31 : decode cX13_alike 31 = .ok (.iload 7, 2) := by decide +kernel
theorem dX13_alike_33 : decode cX13_alike 33 = .ok (.ishr, 1) := by decide +kernel
theorem dX13_alike_34 : decode cX13_alike 34 = .ok (.iconst 1, 1) := by decide +kernel
theorem dX13_alike_35 : decode cX13_alike 35 = .ok (.iand, 1) := by decide +kernel
theorem dX13_alike_36 : decode cX13_alike 36 = .ok (.iconst 1, 1) := by decide +kernel
theorem dX13_alike_37 : decode cX13_alike 37 = .ok (.if_icmp .ne 16, 3) := by decide +kernel
theorem dX13_alike_40 : decode cX13_alike 40 = .ok (.aload_n 0, 1) := by decide +kernel
theorem dX13_alike_41 : decode cX13_alike 41 = .ok (.iload 7, 2) := by decide +kernel
theorem dX13_alike_43 : decode cX13_alike 43 = .ok (.lload_n 2, 1) := by decide +kernel
theorem dX13_alike_44 : decode cX13_alike 44 = .ok (.lload 4, 2) := by decide +kernel
theorem dX13_alike_46 : decode cX13_alike 46 = .ok (.iload 6, 2) := by decide +kernel
theorem dX13_alike_48 : decode cX13_alike 48 = .ok (.i2l, 1) := by decide +kernel
theorem dX13_alike_49 : decode cX13_alike 49 = .ok (.lmul, 1) := by decide +kernel
theorem dX13_alike_50 : decode cX13_alike 50 = .ok (.invokevirtual 297, 3) := by decide +kernel
theorem dX13_alike_53 : decode cX13_alike 53 = .ok (.iinc 7 1, 3) := by decide +kernel
theorem dX13_alike_56 : decode cX13_alike 56 = .ok (.goto (-33), 3) := by decide +kernel
theorem dX13_alike_59 : decode cX13_alike 59 = .ok (.return_, 1) := by decide +kernel
theorem dX13_goesOn_0 : decode cX13_goesOn 0 = .ok (.aload_n 0, 1) := by decide +kernel
theorem dX13_goesOn_1 : decode cX13_goesOn 1 = .ok (.getfield 45, 3) := by decide +kernel
theorem dX13_goesOn_4 : decode cX13_goesOn 4 = .ok (.iload_n 1, 1) := by decide +kernel
theorem dX13_goesOn_5 : decode cX13_goesOn 5 = .ok (.laload, 1) := by decide +kernel
theorem dX13_goesOn_6 : decode cX13_goesOn 6 = .ok (.lstore_n 3, 1) := by decide +kernel
theorem dX13_goesOn_7 : decode cX13_goesOn 7 = .ok (.aload_n 0, 1) := by decide +kernel
theorem dX13_goesOn_8 : decode cX13_goesOn 8 = .ok (.getfield 49, 3) := by decide +kernel
theorem dX13_goesOn_11 : decode cX13_goesOn 11 = .ok (.iload_n 1, 1) := by decide +kernel
theorem dX13_goesOn_12 : decode cX13_goesOn 12 = .ok (.laload, 1) := by decide +kernel
theorem dX13_goesOn_13 : decode cX13_goesOn 13 = .ok (.lstore 5, 2) := by decide +kernel
theorem dX13_goesOn_15 : decode cX13_goesOn 15 = .ok (.lload_n 3, 1) := by decide +kernel
theorem dX13_goesOn_16 : decode cX13_goesOn 16 = .ok (.lconst 0, 1) := by decide +kernel
theorem dX13_goesOn_17 : decode cX13_goesOn 17 = .ok (.lcmp, 1) := by decide +kernel
theorem dX13_goesOn_18 : decode cX13_goesOn 18 = .ok (.ifCond .ne 4, 3) := by decide +kernel
theorem dX13_goesOn_21 : decode cX13_goesOn 21 = .ok (.return_, 1) := by decide +kernel
theorem dX13_goesOn_22 : decode cX13_goesOn 22 = .ok (.aload_n 0, 1) := by decide +kernel
theorem dX13_goesOn_23 : decode cX13_goesOn 23 = .ok (.getfield 45, 3) := by decide +kernel
theorem dX13_goesOn_26 : decode cX13_goesOn 26 = .ok (.iload_n 1, 1) := by decide +kernel
theorem dX13_goesOn_27 : decode cX13_goesOn 27 = .ok (.lconst 0, 1) := by decide +kernel
theorem dX13_goesOn_28 : decode cX13_goesOn 28 = .ok (.lastore, 1) := by decide +kernel
theorem dX13_goesOn_29 : decode cX13_goesOn 29 = .ok (.aload_n 0, 1) := by decide +kernel
theorem dX13_goesOn_30 : decode cX13_goesOn 30 = .ok (.getfield 49, 3) := by decide +kernel
theorem dX13_goesOn_33 : decode cX13_goesOn 33 = .ok (.iload_n 1, 1) := by decide +kernel
theorem dX13_goesOn_34 : decode cX13_goesOn 34 = .ok (.lconst 1, 1) := by decide +kernel
theorem dX13_goesOn_35 : decode cX13_goesOn 35 = .ok (.lastore, 1) := by decide +kernel
theorem dX13_goesOn_36 : decode cX13_goesOn 36 = .ok (.aload_n 0, 1) := by decide +kernel
theorem dX13_goesOn_37 : decode cX13_goesOn 37 = .ok (.iload_n 1, 1) := by decide +kernel
theorem dX13_goesOn_38 : decode cX13_goesOn 38 = .ok (.iload_n 2, 1) := by decide +kernel
theorem dX13_goesOn_39 : decode cX13_goesOn 39 = .ok (.invokevirtual 284, 3) := by decide +kernel
theorem dX13_goesOn_42 : decode cX13_goesOn 42 = .ok (.aload_n 0, 1) := by decide +kernel
theorem dX13_goesOn_43 : decode cX13_goesOn 43 = .ok (.getfield 274, 3) := by decide +kernel
theorem dX13_goesOn_46 : decode cX13_goesOn 46 = .ok (.istore 7, 2) := by decide +kernel
theorem dX13_goesOn_48 : decode cX13_goesOn 48 = .ok (.aload_n 0, 1) := by decide +kernel
theorem dX13_goesOn_49 : decode cX13_goesOn 49 = .ok (.aload_n 0, 1) := by decide +kernel
theorem dX13_goesOn_50 : decode cX13_goesOn 50 = .ok (.iload_n 1, 1) := by decide +kernel
theorem dX13_goesOn_51 : decode cX13_goesOn 51 = .ok (.invokevirtual 209, 3) := by decide +kernel
theorem dX13_goesOn_54 : decode cX13_goesOn 54 = .ok (.aload_n 0, 1) := by decide +kernel
theorem dX13_goesOn_55 : decode cX13_goesOn 55 = .ok (.iload_n 1, 1) := by decide +kernel
theorem dX13_goesOn_56 : decode cX13_goesOn 56 = .ok (.invokevirtual 203, 3) := by decide +kernel
theorem dX13_goesOn_59 : decode cX13_goesOn 59 = .ok (.iconst 0, 1) := by decide +kernel
theorem dX13_goesOn_60 : decode cX13_goesOn 60 = .ok (.invokevirtual 288, 3) := by decide +kernel
theorem dX13_goesOn_63 : decode cX13_goesOn 63 = .ok (.istore 8, 2) := by decide +kernel
theorem dX13_goesOn_65 : decode cX13_goesOn 65 = .ok (.iload 7, 2) := by decide +kernel
theorem dX13_goesOn_67 : decode cX13_goesOn 67 = .ok (.bipush (-2), 2) := by decide +kernel
theorem dX13_goesOn_69 : decode cX13_goesOn 69 = .ok (.if_icmp .ne 18, 3) := by decide +kernel
theorem dX13_goesOn_72 : decode cX13_goesOn 72 = .ok (.aload_n 0, 1) := by decide +kernel
theorem dX13_goesOn_73 : decode cX13_goesOn 73 = .ok (.aload_n 0, 1) := by decide +kernel
theorem dX13_goesOn_74 : decode cX13_goesOn 74 = .ok (.iload_n 1, 1) := by decide +kernel
theorem dX13_goesOn_75 : decode cX13_goesOn 75 = .ok (.invokevirtual 290, 3) := by decide +kernel
theorem dX13_goesOn_78 : decode cX13_goesOn 78 = .ok (.lload_n 3, 1) := by decide +kernel
theorem dX13_goesOn_79 : decode cX13_goesOn 79 = .ok (.lload 5, 2) := by decide +kernel
theorem dX13_goesOn_81 : decode cX13_goesOn 81 = .ok (.invokevirtual 301, 3) := by decide +kernel
theorem dX13_goesOn_84 : decode cX13_goesOn 84 = .ok (.goto 59, 3) := by decide +kernel
theorem dX13_goesOn_87 : decode cX13_goesOn 87 = .ok (.aload_n 0, 1) := by decide +kernel
theorem dX13_goesOn_88 : decode cX13_goesOn 88 = .ok (.aload_n 0, 1) := by decide +kernel
theorem dX13_goesOn_89 : decode cX13_goesOn 89 = .ok (.iload_n 2, 1) := by decide +kernel
theorem dX13_goesOn_90 : decode cX13_goesOn 90 = .ok (.invokevirtual 248, 3) := by decide +kernel
theorem dX13_goesOn_93 : decode cX13_goesOn 93 = .ok (.iconst 4, 1) := by decide +kernel
theorem dX13_goesOn_94 : decode cX13_goesOn 94 = .ok (.invokevirtual 239, 3) := by decide +kernel
theorem dX13_goesOn_97 : decode cX13_goesOn 97 = .ok (.ifCond .eq 37, 3) := by decide +kernel
theorem dX13_goesOn_100 : decode cX13_goesOn 100 = .ok (.iload 8, 2) := by decide +kernel
theorem dX13_goesOn_102 : decode cX13_goesOn 102 = .ok (.ifCond .eq 32, 3) := by decide +kernel
theorem dX13_goesOn_105 : decode cX13_goesOn 105 = .ok (.aload_n 0, 1) := by decide +kernel
theorem dX13_goesOn_106 : decode cX13_goesOn 106 = .ok (.iload 8, 2) := by decide +kernel
theorem dX13_goesOn_108 : decode cX13_goesOn 108 = .ok (.lload_n 3, 1) := by decide +kernel
theorem dX13_goesOn_109 : decode cX13_goesOn 109 = .ok (.ldc2_w 304, 3) := by decide +kernel
theorem dX13_goesOn_112 : decode cX13_goesOn 112 = .ok (.lload 5, 2) := by decide +kernel
theorem dX13_goesOn_114 : decode cX13_goesOn 114 = .ok (.lmul, 1) := by decide +kernel
theorem dX13_goesOn_115 : decode cX13_goesOn 115 = .ok (.invokevirtual 301, 3) := by decide +kernel
theorem dX13_goesOn_118 : decode cX13_goesOn 118 = .ok (.aload_n 0, 1) := by decide +kernel
theorem dX13_goesOn_119 : decode cX13_goesOn 119 = .ok (.iload 7, 2) := by decide +kernel
theorem dX13_goesOn_121 : decode cX13_goesOn 121 = .ok (.lload_n 3, 1) := by decide +kernel
theorem dX13_goesOn_122 : decode cX13_goesOn 122 = .ok (.ldc2_w 304, 3) := by decide +kernel
theorem dX13_goesOn_125 : decode cX13_goesOn 125 = .ok (.lload 5, 2) := by decide +kernel
theorem dX13_goesOn_127 : decode cX13_goesOn 127 = .ok (.lmul, 1) := by decide +kernel
theorem dX13_goesOn_128 : decode cX13_goesOn 128 = .ok (.invokevirtual 297, 3) := by decide +kernel
theorem dX13_goesOn_131 : decode cX13_goesOn 131 = .ok (.goto 12, 3) := by decide +kernel
theorem dX13_goesOn_134 : decode cX13_goesOn 134 = .ok (.aload_n 0, 1) := by decide +kernel
theorem dX13_goesOn_135 : decode cX13_goesOn 135 = .ok (.iload 7, 2) := by decide +kernel
theorem dX13_goesOn_137 : decode cX13_goesOn 137 = .ok (.lload_n 3, 1) := by decide +kernel
theorem dX13_goesOn_138 : decode cX13_goesOn 138 = .ok (.lload 5, 2) := by decide +kernel
theorem dX13_goesOn_140 : decode cX13_goesOn 140 = .ok (.invokevirtual 297, 3) := by decide +kernel
theorem dX13_goesOn_143 : decode cX13_goesOn 143 = .ok (.return_, 1) := by decide +kernel
theorem dX13_holding_0 : decode cX13_holding 0 = .ok (.iconst 0, 1) := by decide +kernel
theorem dX13_holding_1 : decode cX13_holding 1 = .ok (.istore_n 1, 1) := by decide +kernel
theorem dX13_holding_2 : decode cX13_holding 2 = .ok (.iconst 0, 1) := by decide +kernel
theorem dX13_holding_3 : decode cX13_holding 3 = .ok (.istore_n 2, 1) := by decide +kernel
theorem dX13_holding_4 : decode cX13_holding 4 = .ok (.iload_n 2, 1) := by decide +kernel
theorem dX13_holding_5 : decode cX13_holding 5 = .ok (.bipush 10, 2) := by decide +kernel
theorem dX13_holding_7 : decode cX13_holding 7 = .ok (.if_icmp .gt 30, 3) := by decide +kernel
theorem dX13_holding_10 : decode cX13_holding 10 = .ok (.iload_n 1, 1) := by decide +kernel
theorem dX13_holding_11 : decode cX13_holding 11 = .ok (.aload_n 0, 1) := by decide +kernel
theorem dX13_holding_12 : decode cX13_holding 12 = .ok (.getfield 45, 3) := by decide +kernel
theorem dX13_holding_15 : decode cX13_holding 15 = .ok (.iload_n 2, 1) := by decide +kernel
theorem dX13_holding_16 : decode cX13_holding 16 = .ok (.laload, 1) := by decide +kernel
theorem dX13_holding_17 : decode cX13_holding 17 = .ok (.lconst 0, 1) := by decide +kernel
theorem dX13_holding_18 : decode cX13_holding 18 = .ok (.lcmp, 1) := by decide +kernel
theorem dX13_holding_19 : decode cX13_holding 19 = .ok (.ifCond .le 9, 3) := by decide +kernel
theorem dX13_holding_22 : decode cX13_holding 22 = .ok (.iconst 1, 1) := by decide +kernel
theorem dX13_holding_23 : decode cX13_holding 23 = .ok (.iload_n 2, 1) := by decide +kernel
theorem dX13_holding_24 : decode cX13_holding 24 = .ok (.ishl, 1) := by decide +kernel
theorem dX13_holding_25 : decode cX13_holding 25 = .ok (.goto 4, 3) := by decide +kernel
theorem dX13_holding_28 : decode cX13_holding 28 = .ok (.iconst 0, 1) := by decide +kernel
theorem dX13_holding_29 : decode cX13_holding 29 = .ok (.ior, 1) := by decide +kernel
theorem dX13_holding_30 : decode cX13_holding 30 = .ok (.istore_n 1, 1) := by decide +kernel
theorem dX13_holding_31 : decode cX13_holding 31 = .ok (.iinc 2 1, 3) := by decide +kernel
theorem dX13_holding_34 : decode cX13_holding 34 = .ok (.goto (-30), 3) := by decide +kernel
theorem dX13_holding_37 : decode cX13_holding 37 = .ok (.iload_n 1, 1) := by decide +kernel
theorem dX13_holding_38 : decode cX13_holding 38 = .ok (.ireturn, 1) := by decide +kernel
theorem dX13_laysParts_0 : decode cX13_laysParts 0 = .ok (.iconst 0, 1) := by decide +kernel
theorem dX13_laysParts_1 : decode cX13_laysParts 1 = .ok (.istore_n 3, 1) := by decide +kernel
theorem dX13_laysParts_2 : decode cX13_laysParts 2 = .ok (.iload_n 3, 1) := by decide +kernel
theorem dX13_laysParts_3 : decode cX13_laysParts 3 = .ok (.bipush 10, 2) := by decide +kernel
theorem dX13_laysParts_5 : decode cX13_laysParts 5 = .ok (.if_icmp .gt 23, 3) := by decide +kernel
theorem dX13_laysParts_8 : decode cX13_laysParts 8 = .ok (.aload_n 0, 1) := by decide +kernel
theorem dX13_laysParts_9 : decode cX13_laysParts 9 = .ok (.getfield 45, 3) := by decide +kernel
theorem dX13_laysParts_12 : decode cX13_laysParts 12 = .ok (.iload_n 3, 1) := by decide +kernel
theorem dX13_laysParts_13 : decode cX13_laysParts 13 = .ok (.lconst 0, 1) := by decide +kernel
theorem dX13_laysParts_14 : decode cX13_laysParts 14 = .ok (.lastore, 1) := by decide +kernel
theorem dX13_laysParts_15 : decode cX13_laysParts 15 = .ok (.aload_n 0, 1) := by decide +kernel
theorem dX13_laysParts_16 : decode cX13_laysParts 16 = .ok (.getfield 49, 3) := by decide +kernel
theorem dX13_laysParts_19 : decode cX13_laysParts 19 = .ok (.iload_n 3, 1) := by decide +kernel
theorem dX13_laysParts_20 : decode cX13_laysParts 20 = .ok (.lconst 1, 1) := by decide +kernel
theorem dX13_laysParts_21 : decode cX13_laysParts 21 = .ok (.lastore, 1) := by decide +kernel
theorem dX13_laysParts_22 : decode cX13_laysParts 22 = .ok (.iinc 3 1, 3) := by decide +kernel
theorem dX13_laysParts_25 : decode cX13_laysParts 25 = .ok (.goto (-23), 3) := by decide +kernel
theorem dX13_laysParts_28 : decode cX13_laysParts 28 = .ok (.aload_n 0, 1) := by decide +kernel
theorem dX13_laysParts_29 : decode cX13_laysParts 29 = .ok (.getfield 45, 3) := by decide +kernel
theorem dX13_laysParts_32 : decode cX13_laysParts 32 = .ok (.aload_n 0, 1) := by decide +kernel
theorem dX13_laysParts_33 : decode cX13_laysParts 33 = .ok (.getfield 13, 3) := by decide +kernel
theorem dX13_laysParts_36 : decode cX13_laysParts 36 = .ok (.bipush 34, 2) := by decide +kernel
theorem dX13_laysParts_38 : decode cX13_laysParts 38 = .ok (.iconst 3, 1) := by decide +kernel
theorem dX13_laysParts_39 : decode cX13_laysParts 39 = .ok (.iload_n 1, 1) := by decide +kernel
theorem dX13_laysParts_40 : decode cX13_laysParts 40 = .ok (.imul, 1) := by decide +kernel
theorem dX13_laysParts_41 : decode cX13_laysParts 41 = .ok (.iadd, 1) := by decide +kernel
theorem dX13_laysParts_42 : decode cX13_laysParts 42 = .ok (.iaload, 1) := by decide +kernel
theorem dX13_laysParts_43 : decode cX13_laysParts 43 = .ok (.lconst 1, 1) := by decide +kernel
theorem dX13_laysParts_44 : decode cX13_laysParts 44 = .ok (.lastore, 1) := by decide +kernel
theorem dX13_laysParts_45 : decode cX13_laysParts 45 = .ok (.aload_n 0, 1) := by decide +kernel
theorem dX13_laysParts_46 : decode cX13_laysParts 46 = .ok (.aload_n 0, 1) := by decide +kernel
theorem dX13_laysParts_47 : decode cX13_laysParts 47 = .ok (.invokevirtual 306, 3) := by decide +kernel
theorem dX13_laysParts_50 : decode cX13_laysParts 50 = .ok (.putfield 309, 3) := by decide +kernel
theorem dX13_laysParts_53 : decode cX13_laysParts 53 = .ok (.aload_n 0, 1) := by decide +kernel
theorem dX13_laysParts_54 : decode cX13_laysParts 54 = .ok (.iconst 0, 1) := by decide +kernel
theorem dX13_laysParts_55 : decode cX13_laysParts 55 = .ok (.putfield 312, 3) := by decide +kernel
theorem dX13_laysParts_58 : decode cX13_laysParts 58 = .ok (.aload_n 0, 1) := by decide +kernel
theorem dX13_laysParts_59 : decode cX13_laysParts 59 = .ok (.bipush (-2), 2) := by decide +kernel
theorem dX13_laysParts_61 : decode cX13_laysParts 61 = .ok (.putfield 315, 3) := by decide +kernel
theorem dX13_laysParts_64 : decode cX13_laysParts 64 = .ok (.aload_n 0, 1) := by decide +kernel
theorem dX13_laysParts_65 : decode cX13_laysParts 65 = .ok (.iconst 0, 1) := by decide +kernel
theorem dX13_laysParts_66 : decode cX13_laysParts 66 = .ok (.putfield 318, 3) := by decide +kernel
theorem dX13_laysParts_69 : decode cX13_laysParts 69 = .ok (.iconst 0, 1) := by decide +kernel
theorem dX13_laysParts_70 : decode cX13_laysParts 70 = .ok (.istore_n 3, 1) := by decide +kernel
theorem dX13_laysParts_71 : decode cX13_laysParts 71 = .ok (.aload_n 0, 1) := by decide +kernel
theorem dX13_laysParts_72 : decode cX13_laysParts 72 = .ok (.iload_n 3, 1) := by decide +kernel
theorem dX13_laysParts_73 : decode cX13_laysParts 73 = .ok (.iload_n 2, 1) := by decide +kernel
theorem dX13_laysParts_74 : decode cX13_laysParts 74 = .ok (.invokevirtual 321, 3) := by decide +kernel
theorem dX13_laysParts_77 : decode cX13_laysParts 77 = .ok (.istore 4, 2) := by decide +kernel
theorem dX13_laysParts_79 : decode cX13_laysParts 79 = .ok (.iload 4, 2) := by decide +kernel
theorem dX13_laysParts_81 : decode cX13_laysParts 81 = .ok (.iconst (-1), 1) := by decide +kernel
theorem dX13_laysParts_82 : decode cX13_laysParts 82 = .ok (.if_icmp .eq 86, 3) := by decide +kernel
theorem dX13_laysParts_85 : decode cX13_laysParts 85 = .ok (.aload_n 0, 1) := by decide +kernel
theorem dX13_laysParts_86 : decode cX13_laysParts 86 = .ok (.getfield 45, 3) := by decide +kernel
theorem dX13_laysParts_89 : decode cX13_laysParts 89 = .ok (.iload 4, 2) := by decide +kernel
theorem dX13_laysParts_91 : decode cX13_laysParts 91 = .ok (.laload, 1) := by decide +kernel
theorem dX13_laysParts_92 : decode cX13_laysParts 92 = .ok (.lconst 0, 1) := by decide +kernel
theorem dX13_laysParts_93 : decode cX13_laysParts 93 = .ok (.lcmp, 1) := by decide +kernel
theorem dX13_laysParts_94 : decode cX13_laysParts 94 = .ok (.ifCond .le 36, 3) := by decide +kernel
theorem dX13_laysParts_97 : decode cX13_laysParts 97 = .ok (.aload_n 0, 1) := by decide +kernel
theorem dX13_laysParts_98 : decode cX13_laysParts 98 = .ok (.dup, 1) := by decide +kernel
theorem dX13_laysParts_99 : decode cX13_laysParts 99 = .ok (.getfield 312, 3) := by decide +kernel
theorem dX13_laysParts_102 : decode cX13_laysParts 102 = .ok (.iconst 1, 1) := by decide +kernel
theorem dX13_laysParts_103 : decode cX13_laysParts 103 = .ok (.iadd, 1) := by decide +kernel
theorem dX13_laysParts_104 : decode cX13_laysParts 104 = .ok (.putfield 312, 3) := by decide +kernel
theorem dX13_laysParts_107 : decode cX13_laysParts 107 = .ok (.aload_n 0, 1) := by decide +kernel
theorem dX13_laysParts_108 : decode cX13_laysParts 108 = .ok (.aload_n 0, 1) := by decide +kernel
theorem dX13_laysParts_109 : decode cX13_laysParts 109 = .ok (.iload 4, 2) := by decide +kernel
theorem dX13_laysParts_111 : decode cX13_laysParts 111 = .ok (.invokevirtual 203, 3) := by decide +kernel
theorem dX13_laysParts_114 : decode cX13_laysParts 114 = .ok (.putfield 315, 3) := by decide +kernel
theorem dX13_laysParts_117 : decode cX13_laysParts 117 = .ok (.aload_n 0, 1) := by decide +kernel
theorem dX13_laysParts_118 : decode cX13_laysParts 118 = .ok (.dup, 1) := by decide +kernel
theorem dX13_laysParts_119 : decode cX13_laysParts 119 = .ok (.getfield 318, 3) := by decide +kernel
theorem dX13_laysParts_122 : decode cX13_laysParts 122 = .ok (.iconst 1, 1) := by decide +kernel
theorem dX13_laysParts_123 : decode cX13_laysParts 123 = .ok (.iload 4, 2) := by decide +kernel
theorem dX13_laysParts_125 : decode cX13_laysParts 125 = .ok (.ishl, 1) := by decide +kernel
theorem dX13_laysParts_126 : decode cX13_laysParts 126 = .ok (.ior, 1) := by decide +kernel
theorem dX13_laysParts_127 : decode cX13_laysParts 127 = .ok (.putfield 318, 3) := by decide +kernel
theorem dX13_laysParts_130 : decode cX13_laysParts 130 = .ok (.aload_n 0, 1) := by decide +kernel
theorem dX13_laysParts_131 : decode cX13_laysParts 131 = .ok (.iload 4, 2) := by decide +kernel
theorem dX13_laysParts_133 : decode cX13_laysParts 133 = .ok (.iload_n 1, 1) := by decide +kernel
theorem dX13_laysParts_134 : decode cX13_laysParts 134 = .ok (.invokevirtual 324, 3) := by decide +kernel
theorem dX13_laysParts_137 : decode cX13_laysParts 137 = .ok (.aload_n 0, 1) := by decide +kernel
theorem dX13_laysParts_138 : decode cX13_laysParts 138 = .ok (.dup, 1) := by decide +kernel
theorem dX13_laysParts_139 : decode cX13_laysParts 139 = .ok (.getfield 309, 3) := by decide +kernel
theorem dX13_laysParts_142 : decode cX13_laysParts 142 = .ok (.aload_n 0, 1) := by decide +kernel
theorem dX13_laysParts_143 : decode cX13_laysParts 143 = .ok (.invokevirtual 306, 3) := by decide +kernel
theorem dX13_laysParts_146 : decode cX13_laysParts 146 = .ok (.ior, 1) := by decide +kernel
theorem dX13_laysParts_147 : decode cX13_laysParts 147 = .ok (.putfield 309, 3) := by decide +kernel
theorem dX13_laysParts_150 : decode cX13_laysParts 150 = .ok (.iload_n 3, 1) := by decide +kernel
theorem dX13_laysParts_151 : decode cX13_laysParts 151 = .ok (.iconst 1, 1) := by decide +kernel
theorem dX13_laysParts_152 : decode cX13_laysParts 152 = .ok (.iload 4, 2) := by decide +kernel
theorem dX13_laysParts_154 : decode cX13_laysParts 154 = .ok (.ishl, 1) := by decide +kernel
theorem dX13_laysParts_155 : decode cX13_laysParts 155 = .ok (.ior, 1) := by decide +kernel
theorem dX13_laysParts_156 : decode cX13_laysParts 156 = .ok (.istore_n 3, 1) := by decide +kernel
theorem dX13_laysParts_157 : decode cX13_laysParts 157 = .ok (.aload_n 0, 1) := by decide +kernel
theorem dX13_laysParts_158 : decode cX13_laysParts 158 = .ok (.iload_n 3, 1) := by decide +kernel
theorem dX13_laysParts_159 : decode cX13_laysParts 159 = .ok (.iload_n 2, 1) := by decide +kernel
theorem dX13_laysParts_160 : decode cX13_laysParts 160 = .ok (.invokevirtual 321, 3) := by decide +kernel
theorem dX13_laysParts_163 : decode cX13_laysParts 163 = .ok (.istore 4, 2) := by decide +kernel
theorem dX13_laysParts_165 : decode cX13_laysParts 165 = .ok (.goto (-86), 3) := by decide +kernel
theorem dX13_laysParts_168 : decode cX13_laysParts 168 = .ok (.return_, 1) := by decide +kernel
theorem dX13_nextDeath_0 : decode cX13_nextDeath 0 = .ok (.iconst (-1), 1) := by decide +kernel
theorem dX13_nextDeath_1 : decode cX13_nextDeath 1 = .ok (.istore_n 3, 1) := by decide +kernel
theorem dX13_nextDeath_2 : decode cX13_nextDeath 2 = .ok (.iconst 0, 1) := by decide +kernel
theorem dX13_nextDeath_3 : decode cX13_nextDeath 3 = .ok (.istore 4, 2) := by decide +kernel
theorem dX13_nextDeath_5 : decode cX13_nextDeath 5 = .ok (.iload 4, 2) := by decide +kernel
theorem dX13_nextDeath_7 : decode cX13_nextDeath 7 = .ok (.aload_n 0, 1) := by decide +kernel
theorem dX13_nextDeath_8 : decode cX13_nextDeath 8 = .ok (.getfield 13, 3) := by decide +kernel
theorem dX13_nextDeath_11 : decode cX13_nextDeath 11 = .ok (.iconst 0, 1) := by decide +kernel
theorem dX13_nextDeath_12 : decode cX13_nextDeath 12 = .ok (.iaload, 1) := by decide +kernel
theorem dX13_nextDeath_13 : decode cX13_nextDeath 13 = .ok (.if_icmp .ge 65, 3) := by decide +kernel
theorem dX13_nextDeath_16 : decode cX13_nextDeath 16 = .ok (.iload_n 1, 1) := by decide +kernel
theorem dX13_nextDeath_17 : decode cX13_nextDeath 17 = .ok (.iload 4, 2) := by decide +kernel
theorem dX13_nextDeath_19 : decode cX13_nextDeath 19 = .ok (.ishr, 1) := by decide +kernel
theorem dX13_nextDeath_20 : decode cX13_nextDeath 20 = .ok (.iconst 1, 1) := by decide +kernel
theorem dX13_nextDeath_21 : decode cX13_nextDeath 21 = .ok (.iand, 1) := by decide +kernel
theorem dX13_nextDeath_22 : decode cX13_nextDeath 22 = .ok (.iconst 1, 1) := by decide +kernel
theorem dX13_nextDeath_23 : decode cX13_nextDeath 23 = .ok (.if_icmp .eq 49, 3) := by decide +kernel
theorem dX13_nextDeath_26 : decode cX13_nextDeath 26 = .ok (.aload_n 0, 1) := by decide +kernel
theorem dX13_nextDeath_27 : decode cX13_nextDeath 27 = .ok (.iload 4, 2) := by decide +kernel
theorem dX13_nextDeath_29 : decode cX13_nextDeath 29 = .ok (.invokevirtual 203, 3) := by decide +kernel
theorem dX13_nextDeath_32 : decode cX13_nextDeath 32 = .ok (.bipush (-2), 2) := by decide +kernel
theorem dX13_nextDeath_34 : decode cX13_nextDeath 34 = .ok (.if_icmp .eq 38, 3) := by decide +kernel
theorem dX13_nextDeath_37 : decode cX13_nextDeath 37 = .ok (.aload_n 0, 1) := by decide +kernel
theorem dX13_nextDeath_38 : decode cX13_nextDeath 38 = .ok (.iload 4, 2) := by decide +kernel
theorem dX13_nextDeath_40 : decode cX13_nextDeath 40 = .ok (.invokevirtual 203, 3) := by decide +kernel
theorem dX13_nextDeath_43 : decode cX13_nextDeath 43 = .ok (.iload_n 2, 1) := by decide +kernel
theorem dX13_nextDeath_44 : decode cX13_nextDeath 44 = .ok (.if_icmp .le 6, 3) := by decide +kernel
theorem dX13_nextDeath_47 : decode cX13_nextDeath 47 = .ok (.goto 25, 3) := by decide +kernel
theorem dX13_nextDeath_50 : decode cX13_nextDeath 50 = .ok (.iload_n 3, 1) := by decide +kernel
theorem dX13_nextDeath_51 : decode cX13_nextDeath 51 = .ok (.iconst (-1), 1) := by decide +kernel
theorem dX13_nextDeath_52 : decode cX13_nextDeath 52 = .ok (.if_icmp .eq 17, 3) := by decide +kernel
theorem dX13_nextDeath_55 : decode cX13_nextDeath 55 = .ok (.aload_n 0, 1) := by decide +kernel
theorem dX13_nextDeath_56 : decode cX13_nextDeath 56 = .ok (.iload 4, 2) := by decide +kernel
theorem dX13_nextDeath_58 : decode cX13_nextDeath 58 = .ok (.invokevirtual 203, 3) := by decide +kernel
theorem dX13_nextDeath_61 : decode cX13_nextDeath 61 = .ok (.aload_n 0, 1) := by decide +kernel
theorem dX13_nextDeath_62 : decode cX13_nextDeath 62 = .ok (.iload_n 3, 1) := by decide +kernel
theorem dX13_nextDeath_63 : decode cX13_nextDeath 63 = .ok (.invokevirtual 203, 3) := by decide +kernel
theorem dX13_nextDeath_66 : decode cX13_nextDeath 66 = .ok (.if_icmp .ge 6, 3) := by decide +kernel
theorem dX13_nextDeath_69 : decode cX13_nextDeath 69 = .ok (.iload 4, 2) := by decide +kernel
theorem dX13_nextDeath_71 : decode cX13_nextDeath 71 = .ok (.istore_n 3, 1) := by decide +kernel
theorem dX13_nextDeath_72 : decode cX13_nextDeath 72 = .ok (.iinc 4 1, 3) := by decide +kernel
theorem dX13_nextDeath_75 : decode cX13_nextDeath 75 = .ok (.goto (-70), 3) := by decide +kernel
theorem dX13_nextDeath_78 : decode cX13_nextDeath 78 = .ok (.iload_n 3, 1) := by decide +kernel
theorem dX13_nextDeath_79 : decode cX13_nextDeath 79 = .ok (.ireturn, 1) := by decide +kernel
theorem dX13_has__0 : decode cX13_has_ 0 = .ok (.aload_n 0, 1) := by decide +kernel
theorem dX13_has__1 : decode cX13_has_ 1 = .ok (.iconst 0, 1) := by decide +kernel
theorem dX13_has__2 : decode cX13_has_ 2 = .ok (.putfield 61, 3) := by decide +kernel
theorem dX13_has__5 : decode cX13_has_ 5 = .ok (.iload_n 1, 1) := by decide +kernel
theorem dX13_has__6 : decode cX13_has_ 6 = .ok (.iconst (-1), 1) := by decide +kernel
theorem dX13_has__7 : decode cX13_has_ 7 = .ok (.if_icmp .eq 11, 3) := by decide +kernel
theorem dX13_has__10 : decode cX13_has_ 10 = .ok (.aload_n 0, 1) := by decide +kernel
theorem dX13_has__11 : decode cX13_has_ 11 = .ok (.iload_n 1, 1) := by decide +kernel
theorem dX13_has__12 : decode cX13_has_ 12 = .ok (.invokevirtual 206, 3) := by decide +kernel
theorem dX13_has__15 : decode cX13_has_ 15 = .ok (.ifCond .eq 29, 3) := by decide +kernel
theorem dX13_has__18 : decode cX13_has_ 18 = .ok (.aload_n 0, 1) := by decide +kernel
theorem dX13_has__19 : decode cX13_has_ 19 = .ok (.iload_n 2, 1) := by decide +kernel
theorem dX13_has__20 : decode cX13_has_ 20 = .ok (.invokevirtual 221, 3) := by decide +kernel
theorem dX13_has__23 : decode cX13_has_ 23 = .ok (.ifCond .eq 21, 3) := by decide +kernel
theorem dX13_has__26 : decode cX13_has_ 26 = .ok (.iload_n 3, 1) := by decide +kernel
theorem dX13_has__27 : decode cX13_has_ 27 = .ok (.invokestatic 230, 3) := by decide +kernel
theorem dX13_has__30 : decode cX13_has_ 30 = .ok (.ifCond .eq 14, 3) := by decide +kernel
theorem dX13_has__33 : decode cX13_has_ 33 = .ok (.iload 4, 2) := by decide +kernel
theorem dX13_has__35 : decode cX13_has_ 35 = .ok (.ifCond .lt 9, 3) := by decide +kernel
theorem dX13_has__38 : decode cX13_has_ 38 = .ok (.iload 4, 2) := by decide +kernel
theorem dX13_has__40 : decode cX13_has_ 40 = .ok (.iconst 1, 1) := by decide +kernel
theorem dX13_has__41 : decode cX13_has_ 41 = .ok (.if_icmp .le 7, 3) := by decide +kernel
theorem dX13_has__44 : decode cX13_has_ 44 = .ok (.ldc2_w 327, 3) := by decide +kernel
theorem dX13_has__47 : decode cX13_has_ 47 = .ok (.lreturn, 1) := by decide +kernel
theorem dX13_has__48 : decode cX13_has_ 48 = .ok (.aload_n 0, 1) := by decide +kernel
theorem dX13_has__49 : decode cX13_has_ 49 = .ok (.iload_n 2, 1) := by decide +kernel
theorem dX13_has__50 : decode cX13_has_ 50 = .ok (.iload_n 3, 1) := by decide +kernel
theorem dX13_has__51 : decode cX13_has_ 51 = .ok (.invokevirtual 329, 3) := by decide +kernel
theorem dX13_has__54 : decode cX13_has_ 54 = .ok (.iload_n 1, 1) := by decide +kernel
theorem dX13_has__55 : decode cX13_has_ 55 = .ok (.iconst (-1), 1) := by decide +kernel
theorem dX13_has__56 : decode cX13_has_ 56 = .ok (.if_icmp .ne 8, 3) := by decide +kernel
theorem dX13_has__59 : decode cX13_has_ 59 = .ok (.bipush 10, 2) := by decide +kernel
theorem dX13_has__61 : decode cX13_has_ 61 = .ok (.goto 4, 3) := by decide +kernel
theorem dX13_has__64 : decode cX13_has_ 64 = .ok (.iload_n 1, 1) := by decide +kernel
theorem dX13_has__65 : decode cX13_has_ 65 = .ok (.istore 5, 2) := by decide +kernel
theorem dX13_has__67 : decode cX13_has_ 67 = .ok (.iload 4, 2) := by decide +kernel
theorem dX13_has__69 : decode cX13_has_ 69 = .ok (.ifCond .ne 13, 3) := by decide +kernel
theorem dX13_has__72 : decode cX13_has_ 72 = .ok (.aload_n 0, 1) := by decide +kernel
theorem dX13_has__73 : decode cX13_has_ 73 = .ok (.getfield 45, 3) := by decide +kernel
theorem dX13_has__76 : decode cX13_has_ 76 = .ok (.iload 5, 2) := by decide +kernel
theorem dX13_has__78 : decode cX13_has_ 78 = .ok (.laload, 1) := by decide +kernel
theorem dX13_has__79 : decode cX13_has_ 79 = .ok (.goto 10, 3) := by decide +kernel
theorem dX13_has__82 : decode cX13_has_ 82 = .ok (.aload_n 0, 1) := by decide +kernel
theorem dX13_has__83 : decode cX13_has_ 83 = .ok (.getfield 49, 3) := by decide +kernel
theorem dX13_has__86 : decode cX13_has_ 86 = .ok (.iload 5, 2) := by decide +kernel
theorem dX13_has__88 : decode cX13_has_ 88 = .ok (.laload, 1) := by decide +kernel
theorem dX13_has__89 : decode cX13_has_ 89 = .ok (.lreturn, 1) := by decide +kernel
theorem dX13_holdersIn_0 : decode cX13_holdersIn 0 = .ok (.aload_n 0, 1) := by decide +kernel
theorem dX13_holdersIn_1 : decode cX13_holdersIn 1 = .ok (.iload_n 1, 1) := by decide +kernel
theorem dX13_holdersIn_2 : decode cX13_holdersIn 2 = .ok (.iload_n 2, 1) := by decide +kernel
theorem dX13_holdersIn_3 : decode cX13_holdersIn 3 = .ok (.invokevirtual 329, 3) := by decide +kernel
theorem dX13_holdersIn_6 : decode cX13_holdersIn 6 = .ok (.aload_n 0, 1) := by decide +kernel
theorem dX13_holdersIn_7 : decode cX13_holdersIn 7 = .ok (.invokevirtual 306, 3) := by decide +kernel
theorem dX13_holdersIn_10 : decode cX13_holdersIn 10 = .ok (.ireturn, 1) := by decide +kernel
theorem dX13_holders_0 : decode cX13_holders 0 = .ok (.aload_n 0, 1) := by decide +kernel
theorem dX13_holders_1 : decode cX13_holders 1 = .ok (.iconst 0, 1) := by decide +kernel
theorem dX13_holders_2 : decode cX13_holders 2 = .ok (.putfield 61, 3) := by decide +kernel
theorem dX13_holders_5 : decode cX13_holders 5 = .ok (.aload_n 0, 1) := by decide +kernel
theorem dX13_holders_6 : decode cX13_holders 6 = .ok (.iload_n 1, 1) := by decide +kernel
theorem dX13_holders_7 : decode cX13_holders 7 = .ok (.invokevirtual 221, 3) := by decide +kernel
theorem dX13_holders_10 : decode cX13_holders 10 = .ok (.ifCond .eq 19, 3) := by decide +kernel
theorem dX13_holders_13 : decode cX13_holders 13 = .ok (.iload_n 2, 1) := by decide +kernel
theorem dX13_holders_14 : decode cX13_holders 14 = .ok (.invokestatic 230, 3) := by decide +kernel
theorem dX13_holders_17 : decode cX13_holders 17 = .ok (.ifCond .eq 12, 3) := by decide +kernel
theorem dX13_holders_20 : decode cX13_holders 20 = .ok (.aload_n 0, 1) := by decide +kernel
theorem dX13_holders_21 : decode cX13_holders 21 = .ok (.iload_n 1, 1) := by decide +kernel
theorem dX13_holders_22 : decode cX13_holders 22 = .ok (.iload_n 2, 1) := by decide +kernel
theorem dX13_holders_23 : decode cX13_holders 23 = .ok (.invokevirtual 332, 3) := by decide +kernel
theorem dX13_holders_26 : decode cX13_holders 26 = .ok (.goto 4, 3) := by decide +kernel
theorem dX13_holders_29 : decode cX13_holders 29 = .ok (.iconst (-1), 1) := by decide +kernel
theorem dX13_holders_30 : decode cX13_holders 30 = .ok (.ireturn, 1) := by decide +kernel
theorem dX13_wealthOf_0 : decode cX13_wealthOf 0 = .ok (.lconst 0, 1) := by decide +kernel
theorem dX13_wealthOf_1 : decode cX13_wealthOf 1 = .ok (.lstore_n 2, 1) := by decide +kernel
theorem dX13_wealthOf_2 : decode cX13_wealthOf 2 = .ok (.iconst 0, 1) := by decide +kernel
theorem dX13_wealthOf_3 : decode cX13_wealthOf 3 = .ok (.istore 4, 2) := by decide +kernel
theorem dX13_wealthOf_5 : decode cX13_wealthOf 5 = .ok (.iload 4, 2) := by decide +kernel
theorem dX13_wealthOf_7 : decode cX13_wealthOf 7 = .ok (.aload_n 0, 1) := by decide +kernel
theorem dX13_wealthOf_8 : decode cX13_wealthOf 8 = .ok (.getfield 13, 3) := by decide +kernel
theorem dX13_wealthOf_11 : decode cX13_wealthOf 11 = .ok (.iconst 1, 1) := by decide +kernel
theorem dX13_wealthOf_12 : decode cX13_wealthOf 12 = .ok (.iaload, 1) := by decide +kernel
theorem dX13_wealthOf_13 : decode cX13_wealthOf 13 = .ok (.if_icmp .ge 54, 3) := by decide +kernel
theorem dX13_wealthOf_16 : decode cX13_wealthOf 16 = .ok (.aload_n 0, 1) := by decide +kernel
theorem dX13_wealthOf_17 : decode cX13_wealthOf 17 = .ok (.iload 4, 2) := by decide +kernel
theorem dX13_wealthOf_19 : decode cX13_wealthOf 19 = .ok (.sipush 9999, 3) := by decide +kernel
theorem dX13_wealthOf_22 : decode cX13_wealthOf 22 = .ok (.invokevirtual 329, 3) := by decide +kernel
theorem dX13_wealthOf_25 : decode cX13_wealthOf 25 = .ok (.lload_n 2, 1) := by decide +kernel
theorem dX13_wealthOf_26 : decode cX13_wealthOf 26 = .ok (.ldc2_w 335, 3) := by decide +kernel
theorem dX13_wealthOf_29 : decode cX13_wealthOf 29 = .ok (.aload_n 0, 1) := by decide +kernel
theorem dX13_wealthOf_30 : decode cX13_wealthOf 30 = .ok (.getfield 13, 3) := by decide +kernel
theorem dX13_wealthOf_33 : decode cX13_wealthOf 33 = .ok (.bipush 34, 2) := by decide +kernel
theorem dX13_wealthOf_35 : decode cX13_wealthOf 35 = .ok (.iconst 3, 1) := by decide +kernel
theorem dX13_wealthOf_36 : decode cX13_wealthOf 36 = .ok (.iload 4, 2) := by decide +kernel
theorem dX13_wealthOf_38 : decode cX13_wealthOf 38 = .ok (.imul, 1) := by decide +kernel
theorem dX13_wealthOf_39 : decode cX13_wealthOf 39 = .ok (.iadd, 1) := by decide +kernel
theorem dX13_wealthOf_40 : decode cX13_wealthOf 40 = .ok (.iconst 2, 1) := by decide +kernel
theorem dX13_wealthOf_41 : decode cX13_wealthOf 41 = .ok (.iadd, 1) := by decide +kernel
theorem dX13_wealthOf_42 : decode cX13_wealthOf 42 = .ok (.iaload, 1) := by decide +kernel
theorem dX13_wealthOf_43 : decode cX13_wealthOf 43 = .ok (.i2l, 1) := by decide +kernel
theorem dX13_wealthOf_44 : decode cX13_wealthOf 44 = .ok (.lmul, 1) := by decide +kernel
theorem dX13_wealthOf_45 : decode cX13_wealthOf 45 = .ok (.aload_n 0, 1) := by decide +kernel
theorem dX13_wealthOf_46 : decode cX13_wealthOf 46 = .ok (.getfield 45, 3) := by decide +kernel
theorem dX13_wealthOf_49 : decode cX13_wealthOf 49 = .ok (.iload_n 1, 1) := by decide +kernel
theorem dX13_wealthOf_50 : decode cX13_wealthOf 50 = .ok (.laload, 1) := by decide +kernel
theorem dX13_wealthOf_51 : decode cX13_wealthOf 51 = .ok (.lmul, 1) := by decide +kernel
theorem dX13_wealthOf_52 : decode cX13_wealthOf 52 = .ok (.aload_n 0, 1) := by decide +kernel
theorem dX13_wealthOf_53 : decode cX13_wealthOf 53 = .ok (.getfield 49, 3) := by decide +kernel
theorem dX13_wealthOf_56 : decode cX13_wealthOf 56 = .ok (.iload_n 1, 1) := by decide +kernel
theorem dX13_wealthOf_57 : decode cX13_wealthOf 57 = .ok (.laload, 1) := by decide +kernel
theorem dX13_wealthOf_58 : decode cX13_wealthOf 58 = .ok (.ldiv, 1) := by decide +kernel
theorem dX13_wealthOf_59 : decode cX13_wealthOf 59 = .ok (.ladd, 1) := by decide +kernel
theorem dX13_wealthOf_60 : decode cX13_wealthOf 60 = .ok (.lstore_n 2, 1) := by decide +kernel
theorem dX13_wealthOf_61 : decode cX13_wealthOf 61 = .ok (.iinc 4 1, 3) := by decide +kernel
theorem dX13_wealthOf_64 : decode cX13_wealthOf 64 = .ok (.goto (-59), 3) := by decide +kernel
theorem dX13_wealthOf_67 : decode cX13_wealthOf 67 = .ok (.lload_n 2, 1) := by decide +kernel
theorem dX13_wealthOf_68 : decode cX13_wealthOf 68 = .ok (.l2i, 1) := by decide +kernel
theorem dX13_wealthOf_69 : decode cX13_wealthOf 69 = .ok (.ireturn, 1) := by decide +kernel
theorem dX13_wealth_0 : decode cX13_wealth 0 = .ok (.aload_n 0, 1) := by decide +kernel
theorem dX13_wealth_1 : decode cX13_wealth 1 = .ok (.iconst 0, 1) := by decide +kernel
theorem dX13_wealth_2 : decode cX13_wealth 2 = .ok (.putfield 61, 3) := by decide +kernel
theorem dX13_wealth_5 : decode cX13_wealth 5 = .ok (.iload_n 1, 1) := by decide +kernel
theorem dX13_wealth_6 : decode cX13_wealth 6 = .ok (.iconst (-1), 1) := by decide +kernel
theorem dX13_wealth_7 : decode cX13_wealth 7 = .ok (.if_icmp .eq 14, 3) := by decide +kernel
theorem dX13_wealth_10 : decode cX13_wealth 10 = .ok (.aload_n 0, 1) := by decide +kernel
theorem dX13_wealth_11 : decode cX13_wealth 11 = .ok (.iload_n 1, 1) := by decide +kernel
theorem dX13_wealth_12 : decode cX13_wealth 12 = .ok (.invokevirtual 206, 3) := by decide +kernel
theorem dX13_wealth_15 : decode cX13_wealth 15 = .ok (.ifCond .ne 6, 3) := by decide +kernel
theorem dX13_wealth_18 : decode cX13_wealth 18 = .ok (.bipush (-2), 2) := by decide +kernel
theorem dX13_wealth_20 : decode cX13_wealth 20 = .ok (.ireturn, 1) := by decide +kernel
theorem dX13_wealth_21 : decode cX13_wealth 21 = .ok (.aload_n 0, 1) := by decide +kernel
theorem dX13_wealth_22 : decode cX13_wealth 22 = .ok (.iload_n 1, 1) := by decide +kernel
theorem dX13_wealth_23 : decode cX13_wealth 23 = .ok (.iconst (-1), 1) := by decide +kernel
theorem dX13_wealth_24 : decode cX13_wealth 24 = .ok (.if_icmp .ne 8, 3) := by decide +kernel
theorem dX13_wealth_27 : decode cX13_wealth 27 = .ok (.bipush 10, 2) := by decide +kernel
theorem dX13_wealth_29 : decode cX13_wealth 29 = .ok (.goto 4, 3) := by decide +kernel
theorem dX13_wealth_32 : decode cX13_wealth 32 = .ok (.iload_n 1, 1) := by decide +kernel
theorem dX13_wealth_33 : decode cX13_wealth 33 = .ok (.invokevirtual 337, 3) := by decide +kernel
theorem dX13_wealth_36 : decode cX13_wealth 36 = .ok (.ireturn, 1) := by decide +kernel
theorem dX13_ever_0 : decode cX13_ever 0 = .ok (.aload_n 0, 1) := by decide +kernel
theorem dX13_ever_1 : decode cX13_ever 1 = .ok (.iconst 0, 1) := by decide +kernel
theorem dX13_ever_2 : decode cX13_ever 2 = .ok (.putfield 61, 3) := by decide +kernel
theorem dX13_ever_5 : decode cX13_ever 5 = .ok (.aload_n 0, 1) := by decide +kernel
theorem dX13_ever_6 : decode cX13_ever 6 = .ok (.iload_n 1, 1) := by decide +kernel
theorem dX13_ever_7 : decode cX13_ever 7 = .ok (.invokevirtual 206, 3) := by decide +kernel
theorem dX13_ever_10 : decode cX13_ever 10 = .ok (.ifCond .ne 5, 3) := by decide +kernel
theorem dX13_ever_13 : decode cX13_ever 13 = .ok (.iconst (-1), 1) := by decide +kernel
theorem dX13_ever_14 : decode cX13_ever 14 = .ok (.ireturn, 1) := by decide +kernel
theorem dX13_ever_15 : decode cX13_ever 15 = .ok (.iconst 0, 1) := by decide +kernel
theorem dX13_ever_16 : decode cX13_ever 16 = .ok (.istore_n 2, 1) := by decide +kernel
theorem dX13_ever_17 : decode cX13_ever 17 = .ok (.iconst 0, 1) := by decide +kernel
theorem dX13_ever_18 : decode cX13_ever 18 = .ok (.istore_n 3, 1) := by decide +kernel
theorem dX13_ever_19 : decode cX13_ever 19 = .ok (.iload_n 3, 1) := by decide +kernel
theorem dX13_ever_20 : decode cX13_ever 20 = .ok (.aload_n 0, 1) := by decide +kernel
theorem dX13_ever_21 : decode cX13_ever 21 = .ok (.getfield 13, 3) := by decide +kernel
theorem dX13_ever_24 : decode cX13_ever 24 = .ok (.iconst 1, 1) := by decide +kernel
theorem dX13_ever_25 : decode cX13_ever 25 = .ok (.iaload, 1) := by decide +kernel
theorem dX13_ever_26 : decode cX13_ever 26 = .ok (.if_icmp .ge 30, 3) := by decide +kernel
theorem dX13_ever_29 : decode cX13_ever 29 = .ok (.aload_n 0, 1) := by decide +kernel
theorem dX13_ever_30 : decode cX13_ever 30 = .ok (.iload_n 3, 1) := by decide +kernel
theorem dX13_ever_31 : decode cX13_ever 31 = .ok (.sipush 9999, 3) := by decide +kernel
theorem dX13_ever_34 : decode cX13_ever 34 = .ok (.invokevirtual 329, 3) := by decide +kernel
theorem dX13_ever_37 : decode cX13_ever 37 = .ok (.iload_n 2, 1) := by decide +kernel
theorem dX13_ever_38 : decode cX13_ever 38 = .ok (.aload_n 0, 1) := by decide +kernel
theorem dX13_ever_39 : decode cX13_ever 39 = .ok (.getfield 309, 3) := by decide +kernel
theorem dX13_ever_42 : decode cX13_ever 42 = .ok (.iload_n 1, 1) := by decide +kernel
theorem dX13_ever_43 : decode cX13_ever 43 = .ok (.ishr, 1) := by decide +kernel
theorem dX13_ever_44 : decode cX13_ever 44 = .ok (.iconst 1, 1) := by decide +kernel
theorem dX13_ever_45 : decode cX13_ever 45 = .ok (.iand, 1) := by decide +kernel
theorem dX13_ever_46 : decode cX13_ever 46 = .ok (.iload_n 3, 1) := by decide +kernel
theorem dX13_ever_47 : decode cX13_ever 47 = .ok (.ishl, 1) := by decide +kernel
theorem dX13_ever_48 : decode cX13_ever 48 = .ok (.ior, 1) := by decide +kernel
theorem dX13_ever_49 : decode cX13_ever 49 = .ok (.istore_n 2, 1) := by decide +kernel
theorem dX13_ever_50 : decode cX13_ever 50 = .ok (.iinc 3 1, 3) := by decide +kernel
theorem dX13_ever_53 : decode cX13_ever 53 = .ok (.goto (-34), 3) := by decide +kernel
theorem dX13_ever_56 : decode cX13_ever 56 = .ok (.iload_n 2, 1) := by decide +kernel
theorem dX13_ever_57 : decode cX13_ever 57 = .ok (.ireturn, 1) := by decide +kernel
theorem dX13_death_0 : decode cX13_death 0 = .ok (.aload_n 0, 1) := by decide +kernel
theorem dX13_death_1 : decode cX13_death 1 = .ok (.iconst 0, 1) := by decide +kernel
theorem dX13_death_2 : decode cX13_death 2 = .ok (.putfield 61, 3) := by decide +kernel
theorem dX13_death_5 : decode cX13_death 5 = .ok (.iload_n 1, 1) := by decide +kernel
theorem dX13_death_6 : decode cX13_death 6 = .ok (.ifCond .lt 12, 3) := by decide +kernel
theorem dX13_death_9 : decode cX13_death 9 = .ok (.iload_n 2, 1) := by decide +kernel
theorem dX13_death_10 : decode cX13_death 10 = .ok (.ifCond .lt 8, 3) := by decide +kernel
theorem dX13_death_13 : decode cX13_death 13 = .ok (.iload_n 2, 1) := by decide +kernel
theorem dX13_death_14 : decode cX13_death 14 = .ok (.iconst 2, 1) := by decide +kernel
theorem dX13_death_15 : decode cX13_death 15 = .ok (.if_icmp .le 5, 3) := by decide +kernel
theorem dX13_death_18 : decode cX13_death 18 = .ok (.iconst (-1), 1) := by decide +kernel
theorem dX13_death_19 : decode cX13_death 19 = .ok (.ireturn, 1) := by decide +kernel
theorem dX13_death_20 : decode cX13_death 20 = .ok (.iconst 0, 1) := by decide +kernel
theorem dX13_death_21 : decode cX13_death 21 = .ok (.istore_n 3, 1) := by decide +kernel
theorem dX13_death_22 : decode cX13_death 22 = .ok (.aload_n 0, 1) := by decide +kernel
theorem dX13_death_23 : decode cX13_death 23 = .ok (.iload_n 3, 1) := by decide +kernel
theorem dX13_death_24 : decode cX13_death 24 = .ok (.sipush 9999, 3) := by decide +kernel
theorem dX13_death_27 : decode cX13_death 27 = .ok (.invokevirtual 321, 3) := by decide +kernel
theorem dX13_death_30 : decode cX13_death 30 = .ok (.istore 4, 2) := by decide +kernel
theorem dX13_death_32 : decode cX13_death 32 = .ok (.iconst 0, 1) := by decide +kernel
theorem dX13_death_33 : decode cX13_death 33 = .ok (.istore 5, 2) := by decide +kernel
theorem dX13_death_35 : decode cX13_death 35 = .ok (.iload 5, 2) := by decide +kernel
theorem dX13_death_37 : decode cX13_death 37 = .ok (.iload_n 1, 1) := by decide +kernel
theorem dX13_death_38 : decode cX13_death 38 = .ok (.if_icmp .ge 32, 3) := by decide +kernel
theorem dX13_death_41 : decode cX13_death 41 = .ok (.iload 4, 2) := by decide +kernel
theorem dX13_death_43 : decode cX13_death 43 = .ok (.iconst (-1), 1) := by decide +kernel
theorem dX13_death_44 : decode cX13_death 44 = .ok (.if_icmp .eq 26, 3) := by decide +kernel
theorem dX13_death_47 : decode cX13_death 47 = .ok (.iload_n 3, 1) := by decide +kernel
theorem dX13_death_48 : decode cX13_death 48 = .ok (.iconst 1, 1) := by decide +kernel
theorem dX13_death_49 : decode cX13_death 49 = .ok (.iload 4, 2) := by decide +kernel
theorem dX13_death_51 : decode cX13_death 51 = .ok (.ishl, 1) := by decide +kernel
theorem dX13_death_52 : decode cX13_death 52 = .ok (.ior, 1) := by decide +kernel
theorem dX13_death_53 : decode cX13_death 53 = .ok (.istore_n 3, 1) := by decide +kernel
theorem dX13_death_54 : decode cX13_death 54 = .ok (.aload_n 0, 1) := by decide +kernel
theorem dX13_death_55 : decode cX13_death 55 = .ok (.iload_n 3, 1) := by decide +kernel
theorem dX13_death_56 : decode cX13_death 56 = .ok (.sipush 9999, 3) := by decide +kernel
theorem dX13_death_59 : decode cX13_death 59 = .ok (.invokevirtual 321, 3) := by decide +kernel
theorem dX13_death_62 : decode cX13_death 62 = .ok (.istore 4, 2) := by decide +kernel
theorem dX13_death_64 : decode cX13_death 64 = .ok (.iinc 5 1, 3) := by decide +kernel
theorem dX13_death_67 : decode cX13_death 67 = .ok (.goto (-32), 3) := by decide +kernel
theorem dX13_death_70 : decode cX13_death 70 = .ok (.iload 4, 2) := by decide +kernel
theorem dX13_death_72 : decode cX13_death 72 = .ok (.iconst (-1), 1) := by decide +kernel
theorem dX13_death_73 : decode cX13_death 73 = .ok (.if_icmp .ne 6, 3) := by decide +kernel
theorem dX13_death_76 : decode cX13_death 76 = .ok (.bipush (-2), 2) := by decide +kernel
theorem dX13_death_78 : decode cX13_death 78 = .ok (.ireturn, 1) := by decide +kernel
theorem dX13_death_79 : decode cX13_death 79 = .ok (.iload_n 2, 1) := by decide +kernel
theorem dX13_death_80 : decode cX13_death 80 = .ok (.iconst 2, 1) := by decide +kernel
theorem dX13_death_81 : decode cX13_death 81 = .ok (.if_icmp .ge 19, 3) := by decide +kernel
theorem dX13_death_84 : decode cX13_death 84 = .ok (.iload_n 2, 1) := by decide +kernel
theorem dX13_death_85 : decode cX13_death 85 = .ok (.ifCond .ne 8, 3) := by decide +kernel
theorem dX13_death_88 : decode cX13_death 88 = .ok (.iload 4, 2) := by decide +kernel
theorem dX13_death_90 : decode cX13_death 90 = .ok (.goto 9, 3) := by decide +kernel
theorem dX13_death_93 : decode cX13_death 93 = .ok (.aload_n 0, 1) := by decide +kernel
theorem dX13_death_94 : decode cX13_death 94 = .ok (.iload 4, 2) := by decide +kernel
theorem dX13_death_96 : decode cX13_death 96 = .ok (.invokevirtual 203, 3) := by decide +kernel
theorem dX13_death_99 : decode cX13_death 99 = .ok (.ireturn, 1) := by decide +kernel
theorem dX13_death_100 : decode cX13_death 100 = .ok (.iconst 0, 1) := by decide +kernel
theorem dX13_death_101 : decode cX13_death 101 = .ok (.istore 5, 2) := by decide +kernel
theorem dX13_death_103 : decode cX13_death 103 = .ok (.iconst 0, 1) := by decide +kernel
theorem dX13_death_104 : decode cX13_death 104 = .ok (.istore 6, 2) := by decide +kernel
theorem dX13_death_106 : decode cX13_death 106 = .ok (.iload 6, 2) := by decide +kernel
theorem dX13_death_108 : decode cX13_death 108 = .ok (.aload_n 0, 1) := by decide +kernel
theorem dX13_death_109 : decode cX13_death 109 = .ok (.getfield 13, 3) := by decide +kernel
theorem dX13_death_112 : decode cX13_death 112 = .ok (.iconst 1, 1) := by decide +kernel
theorem dX13_death_113 : decode cX13_death 113 = .ok (.iaload, 1) := by decide +kernel
theorem dX13_death_114 : decode cX13_death 114 = .ok (.if_icmp .ge 35, 3) := by decide +kernel
theorem dX13_death_117 : decode cX13_death 117 = .ok (.aload_n 0, 1) := by decide +kernel
theorem dX13_death_118 : decode cX13_death 118 = .ok (.iload 6, 2) := by decide +kernel
theorem dX13_death_120 : decode cX13_death 120 = .ok (.sipush 9999, 3) := by decide +kernel
theorem dX13_death_123 : decode cX13_death 123 = .ok (.invokevirtual 329, 3) := by decide +kernel
theorem dX13_death_126 : decode cX13_death 126 = .ok (.iload 5, 2) := by decide +kernel
theorem dX13_death_128 : decode cX13_death 128 = .ok (.aload_n 0, 1) := by decide +kernel
theorem dX13_death_129 : decode cX13_death 129 = .ok (.getfield 318, 3) := by decide +kernel
theorem dX13_death_132 : decode cX13_death 132 = .ok (.iload 4, 2) := by decide +kernel
theorem dX13_death_134 : decode cX13_death 134 = .ok (.ishr, 1) := by decide +kernel
theorem dX13_death_135 : decode cX13_death 135 = .ok (.iconst 1, 1) := by decide +kernel
theorem dX13_death_136 : decode cX13_death 136 = .ok (.iand, 1) := by decide +kernel
theorem dX13_death_137 : decode cX13_death 137 = .ok (.iload 6, 2) := by decide +kernel
theorem dX13_death_139 : decode cX13_death 139 = .ok (.ishl, 1) := by decide +kernel
theorem dX13_death_140 : decode cX13_death 140 = .ok (.ior, 1) := by decide +kernel
theorem dX13_death_141 : decode cX13_death 141 = .ok (.istore 5, 2) := by decide +kernel
theorem dX13_death_143 : decode cX13_death 143 = .ok (.iinc 6 1, 3) := by decide +kernel
theorem dX13_death_146 : decode cX13_death 146 = .ok (.goto (-40), 3) := by decide +kernel
theorem dX13_death_149 : decode cX13_death 149 = .ok (.iload 5, 2) := by decide +kernel
theorem dX13_death_151 : decode cX13_death 151 = .ok (.ireturn, 1) := by decide +kernel
theorem dX13_moves_0 : decode cX13_moves 0 = .ok (.aload_n 0, 1) := by decide +kernel
theorem dX13_moves_1 : decode cX13_moves 1 = .ok (.iconst 0, 1) := by decide +kernel
theorem dX13_moves_2 : decode cX13_moves 2 = .ok (.putfield 61, 3) := by decide +kernel
theorem dX13_moves_5 : decode cX13_moves 5 = .ok (.aload_n 0, 1) := by decide +kernel
theorem dX13_moves_6 : decode cX13_moves 6 = .ok (.iload_n 1, 1) := by decide +kernel
theorem dX13_moves_7 : decode cX13_moves 7 = .ok (.invokevirtual 221, 3) := by decide +kernel
theorem dX13_moves_10 : decode cX13_moves 10 = .ok (.ifCond .eq 12, 3) := by decide +kernel
theorem dX13_moves_13 : decode cX13_moves 13 = .ok (.iload_n 2, 1) := by decide +kernel
theorem dX13_moves_14 : decode cX13_moves 14 = .ok (.ifCond .lt 8, 3) := by decide +kernel
theorem dX13_moves_17 : decode cX13_moves 17 = .ok (.iload_n 2, 1) := by decide +kernel
theorem dX13_moves_18 : decode cX13_moves 18 = .ok (.iconst 1, 1) := by decide +kernel
theorem dX13_moves_19 : decode cX13_moves 19 = .ok (.if_icmp .le 5, 3) := by decide +kernel
theorem dX13_moves_22 : decode cX13_moves 22 = .ok (.iconst (-1), 1) := by decide +kernel
theorem dX13_moves_23 : decode cX13_moves 23 = .ok (.ireturn, 1) := by decide +kernel
theorem dX13_moves_24 : decode cX13_moves 24 = .ok (.aload_n 0, 1) := by decide +kernel
theorem dX13_moves_25 : decode cX13_moves 25 = .ok (.iload_n 1, 1) := by decide +kernel
theorem dX13_moves_26 : decode cX13_moves 26 = .ok (.sipush 9999, 3) := by decide +kernel
theorem dX13_moves_29 : decode cX13_moves 29 = .ok (.invokevirtual 329, 3) := by decide +kernel
theorem dX13_moves_32 : decode cX13_moves 32 = .ok (.iload_n 2, 1) := by decide +kernel
theorem dX13_moves_33 : decode cX13_moves 33 = .ok (.ifCond .ne 10, 3) := by decide +kernel
theorem dX13_moves_36 : decode cX13_moves 36 = .ok (.aload_n 0, 1) := by decide +kernel
theorem dX13_moves_37 : decode cX13_moves 37 = .ok (.getfield 312, 3) := by decide +kernel
theorem dX13_moves_40 : decode cX13_moves 40 = .ok (.goto 7, 3) := by decide +kernel
theorem dX13_moves_43 : decode cX13_moves 43 = .ok (.aload_n 0, 1) := by decide +kernel
theorem dX13_moves_44 : decode cX13_moves 44 = .ok (.getfield 315, 3) := by decide +kernel
theorem dX13_moves_47 : decode cX13_moves 47 = .ok (.ireturn, 1) := by decide +kernel
theorem dX13_nextKin_0 : decode cX13_nextKin 0 = .ok (.iconst 0, 1) := by decide +kernel
theorem dX13_nextKin_1 : decode cX13_nextKin 1 = .ok (.istore_n 2, 1) := by decide +kernel
theorem dX13_nextKin_2 : decode cX13_nextKin 2 = .ok (.iconst 0, 1) := by decide +kernel
theorem dX13_nextKin_3 : decode cX13_nextKin 3 = .ok (.istore_n 3, 1) := by decide +kernel
theorem dX13_nextKin_4 : decode cX13_nextKin 4 = .ok (.iload_n 3, 1) := by decide +kernel
theorem dX13_nextKin_5 : decode cX13_nextKin 5 = .ok (.aload_n 0, 1) := by decide +kernel
theorem dX13_nextKin_6 : decode cX13_nextKin 6 = .ok (.getfield 13, 3) := by decide +kernel
theorem dX13_nextKin_9 : decode cX13_nextKin 9 = .ok (.iconst 0, 1) := by decide +kernel
theorem dX13_nextKin_10 : decode cX13_nextKin 10 = .ok (.iaload, 1) := by decide +kernel
theorem dX13_nextKin_11 : decode cX13_nextKin 11 = .ok (.if_icmp .ge 36, 3) := by decide +kernel
theorem dX13_nextKin_14 : decode cX13_nextKin 14 = .ok (.iload_n 1, 1) := by decide +kernel
theorem dX13_nextKin_15 : decode cX13_nextKin 15 = .ok (.iload_n 3, 1) := by decide +kernel
theorem dX13_nextKin_16 : decode cX13_nextKin 16 = .ok (.ishr, 1) := by decide +kernel
theorem dX13_nextKin_17 : decode cX13_nextKin 17 = .ok (.iconst 1, 1) := by decide +kernel
theorem dX13_nextKin_18 : decode cX13_nextKin 18 = .ok (.iand, 1) := by decide +kernel
theorem dX13_nextKin_19 : decode cX13_nextKin 19 = .ok (.iconst 1, 1) := by decide +kernel
theorem dX13_nextKin_20 : decode cX13_nextKin 20 = .ok (.if_icmp .ne 21, 3) := by decide +kernel
theorem dX13_nextKin_23 : decode cX13_nextKin 23 = .ok (.iload_n 2, 1) := by decide +kernel
theorem dX13_nextKin_24 : decode cX13_nextKin 24 = .ok (.aload_n 0, 1) := by decide +kernel
theorem dX13_nextKin_25 : decode cX13_nextKin 25 = .ok (.getfield 13, 3) := by decide +kernel
theorem dX13_nextKin_28 : decode cX13_nextKin 28 = .ok (.bipush 24, 2) := by decide +kernel
theorem dX13_nextKin_30 : decode cX13_nextKin 30 = .ok (.iload_n 3, 1) := by decide +kernel
theorem dX13_nextKin_31 : decode cX13_nextKin 31 = .ok (.iadd, 1) := by decide +kernel
theorem dX13_nextKin_32 : decode cX13_nextKin 32 = .ok (.iaload, 1) := by decide +kernel
theorem dX13_nextKin_33 : decode cX13_nextKin 33 = .ok (.aload_n 0, 1) := by decide +kernel
theorem dX13_nextKin_34 : decode cX13_nextKin 34 = .ok (.iload_n 3, 1) := by decide +kernel
theorem dX13_nextKin_35 : decode cX13_nextKin 35 = .ok (.invokevirtual 209, 3) := by decide +kernel
theorem dX13_nextKin_38 : decode cX13_nextKin 38 = .ok (.ior, 1) := by decide +kernel
theorem dX13_nextKin_39 : decode cX13_nextKin 39 = .ok (.ior, 1) := by decide +kernel
theorem dX13_nextKin_40 : decode cX13_nextKin 40 = .ok (.istore_n 2, 1) := by decide +kernel
theorem dX13_nextKin_41 : decode cX13_nextKin 41 = .ok (.iinc 3 1, 3) := by decide +kernel
theorem dX13_nextKin_44 : decode cX13_nextKin 44 = .ok (.goto (-40), 3) := by decide +kernel
theorem dX13_nextKin_47 : decode cX13_nextKin 47 = .ok (.iload_n 2, 1) := by decide +kernel
theorem dX13_nextKin_48 : decode cX13_nextKin 48 = .ok (.iload_n 1, 1) := by decide +kernel
theorem dX13_nextKin_49 : decode cX13_nextKin 49 = .ok (.ior, 1) := by decide +kernel
theorem dX13_nextKin_50 : decode cX13_nextKin 50 = .ok (.ireturn, 1) := by decide +kernel
theorem dX13_kin_0 : decode cX13_kin 0 = .ok (.aload_n 0, 1) := by decide +kernel
theorem dX13_kin_1 : decode cX13_kin 1 = .ok (.iconst 0, 1) := by decide +kernel
theorem dX13_kin_2 : decode cX13_kin 2 = .ok (.putfield 61, 3) := by decide +kernel
theorem dX13_kin_5 : decode cX13_kin 5 = .ok (.aload_n 0, 1) := by decide +kernel
theorem dX13_kin_6 : decode cX13_kin 6 = .ok (.iload_n 1, 1) := by decide +kernel
theorem dX13_kin_7 : decode cX13_kin 7 = .ok (.invokevirtual 206, 3) := by decide +kernel
theorem dX13_kin_10 : decode cX13_kin 10 = .ok (.ifCond .eq 11, 3) := by decide +kernel
theorem dX13_kin_13 : decode cX13_kin 13 = .ok (.aload_n 0, 1) := by decide +kernel
theorem dX13_kin_14 : decode cX13_kin 14 = .ok (.iload_n 2, 1) := by decide +kernel
theorem dX13_kin_15 : decode cX13_kin 15 = .ok (.invokevirtual 206, 3) := by decide +kernel
theorem dX13_kin_18 : decode cX13_kin 18 = .ok (.ifCond .ne 5, 3) := by decide +kernel
theorem dX13_kin_21 : decode cX13_kin 21 = .ok (.iconst (-1), 1) := by decide +kernel
theorem dX13_kin_22 : decode cX13_kin 22 = .ok (.ireturn, 1) := by decide +kernel
theorem dX13_kin_23 : decode cX13_kin 23 = .ok (.iconst 1, 1) := by decide +kernel
theorem dX13_kin_24 : decode cX13_kin 24 = .ok (.iload_n 1, 1) := by decide +kernel
theorem dX13_kin_25 : decode cX13_kin 25 = .ok (.ishl, 1) := by decide +kernel
theorem dX13_kin_26 : decode cX13_kin 26 = .ok (.istore_n 3, 1) := by decide +kernel
theorem dX13_kin_27 : decode cX13_kin 27 = .ok (.iconst 0, 1) := by decide +kernel
theorem dX13_kin_28 : decode cX13_kin 28 = .ok (.istore 4, 2) := by decide +kernel
theorem dX13_kin_30 : decode cX13_kin 30 = .ok (.iload 4, 2) := by decide +kernel
theorem dX13_kin_32 : decode cX13_kin 32 = .ok (.bipush 10, 2) := by decide +kernel
theorem dX13_kin_34 : decode cX13_kin 34 = .ok (.if_icmp .gt 27, 3) := by decide +kernel
theorem dX13_kin_37 : decode cX13_kin 37 = .ok (.iload_n 3, 1) := by decide +kernel
theorem dX13_kin_38 : decode cX13_kin 38 = .ok (.iload_n 2, 1) := by decide +kernel
theorem dX13_kin_39 : decode cX13_kin 39 = .ok (.ishr, 1) := by decide +kernel
theorem dX13_kin_40 : decode cX13_kin 40 = .ok (.iconst 1, 1) := by decide +kernel
theorem dX13_kin_41 : decode cX13_kin 41 = .ok (.iand, 1) := by decide +kernel
theorem dX13_kin_42 : decode cX13_kin 42 = .ok (.iconst 1, 1) := by decide +kernel
theorem dX13_kin_43 : decode cX13_kin 43 = .ok (.if_icmp .ne 6, 3) := by decide +kernel
theorem dX13_kin_46 : decode cX13_kin 46 = .ok (.iload 4, 2) := by decide +kernel
theorem dX13_kin_48 : decode cX13_kin 48 = .ok (.ireturn, 1) := by decide +kernel
theorem dX13_kin_49 : decode cX13_kin 49 = .ok (.aload_n 0, 1) := by decide +kernel
theorem dX13_kin_50 : decode cX13_kin 50 = .ok (.iload_n 3, 1) := by decide +kernel
theorem dX13_kin_51 : decode cX13_kin 51 = .ok (.invokevirtual 340, 3) := by decide +kernel
theorem dX13_kin_54 : decode cX13_kin 54 = .ok (.istore_n 3, 1) := by decide +kernel
theorem dX13_kin_55 : decode cX13_kin 55 = .ok (.iinc 4 1, 3) := by decide +kernel
theorem dX13_kin_58 : decode cX13_kin 58 = .ok (.goto (-28), 3) := by decide +kernel
theorem dX13_kin_61 : decode cX13_kin 61 = .ok (.bipush (-2), 2) := by decide +kernel
theorem dX13_kin_63 : decode cX13_kin 63 = .ok (.ireturn, 1) := by decide +kernel
theorem dX13_naming_0 : decode cX13_naming 0 = .ok (.aload_n 0, 1) := by decide +kernel
theorem dX13_naming_1 : decode cX13_naming 1 = .ok (.iconst 0, 1) := by decide +kernel
theorem dX13_naming_2 : decode cX13_naming 2 = .ok (.putfield 61, 3) := by decide +kernel
theorem dX13_naming_5 : decode cX13_naming 5 = .ok (.aload_n 0, 1) := by decide +kernel
theorem dX13_naming_6 : decode cX13_naming 6 = .ok (.iload_n 1, 1) := by decide +kernel
theorem dX13_naming_7 : decode cX13_naming 7 = .ok (.invokevirtual 206, 3) := by decide +kernel
theorem dX13_naming_10 : decode cX13_naming 10 = .ok (.ifCond .eq 11, 3) := by decide +kernel
theorem dX13_naming_13 : decode cX13_naming 13 = .ok (.aload_n 0, 1) := by decide +kernel
theorem dX13_naming_14 : decode cX13_naming 14 = .ok (.iload_n 2, 1) := by decide +kernel
theorem dX13_naming_15 : decode cX13_naming 15 = .ok (.invokevirtual 206, 3) := by decide +kernel
theorem dX13_naming_18 : decode cX13_naming 18 = .ok (.ifCond .ne 5, 3) := by decide +kernel
theorem dX13_naming_21 : decode cX13_naming 21 = .ok (.iconst (-1), 1) := by decide +kernel
theorem dX13_naming_22 : decode cX13_naming 22 = .ok (.ireturn, 1) := by decide +kernel
theorem dX13_naming_23 : decode cX13_naming 23 = .ok (.iconst 0, 1) := by decide +kernel
theorem dX13_naming_24 : decode cX13_naming 24 = .ok (.istore_n 3, 1) := by decide +kernel
theorem dX13_naming_25 : decode cX13_naming 25 = .ok (.iconst 0, 1) := by decide +kernel
theorem dX13_naming_26 : decode cX13_naming 26 = .ok (.istore 4, 2) := by decide +kernel
theorem dX13_naming_28 : decode cX13_naming 28 = .ok (.iload 4, 2) := by decide +kernel
theorem dX13_naming_30 : decode cX13_naming 30 = .ok (.aload_n 0, 1) := by decide +kernel
theorem dX13_naming_31 : decode cX13_naming 31 = .ok (.getfield 13, 3) := by decide +kernel
theorem dX13_naming_34 : decode cX13_naming 34 = .ok (.iconst 2, 1) := by decide +kernel
theorem dX13_naming_35 : decode cX13_naming 35 = .ok (.iaload, 1) := by decide +kernel
theorem dX13_naming_36 : decode cX13_naming 36 = .ok (.if_icmp .ge 36, 3) := by decide +kernel
theorem dX13_naming_39 : decode cX13_naming 39 = .ok (.aload_n 0, 1) := by decide +kernel
theorem dX13_naming_40 : decode cX13_naming 40 = .ok (.iload 4, 2) := by decide +kernel
theorem dX13_naming_42 : decode cX13_naming 42 = .ok (.iconst 0, 1) := by decide +kernel
theorem dX13_naming_43 : decode cX13_naming 43 = .ok (.invokevirtual 218, 3) := by decide +kernel
theorem dX13_naming_46 : decode cX13_naming 46 = .ok (.iload_n 1, 1) := by decide +kernel
theorem dX13_naming_47 : decode cX13_naming 47 = .ok (.if_icmp .ne 19, 3) := by decide +kernel
theorem dX13_naming_50 : decode cX13_naming 50 = .ok (.iload_n 3, 1) := by decide +kernel
theorem dX13_naming_51 : decode cX13_naming 51 = .ok (.aload_n 0, 1) := by decide +kernel
theorem dX13_naming_52 : decode cX13_naming 52 = .ok (.iload 4, 2) := by decide +kernel
theorem dX13_naming_54 : decode cX13_naming 54 = .ok (.invokevirtual 343, 3) := by decide +kernel
theorem dX13_naming_57 : decode cX13_naming 57 = .ok (.iload_n 2, 1) := by decide +kernel
theorem dX13_naming_58 : decode cX13_naming 58 = .ok (.ishr, 1) := by decide +kernel
theorem dX13_naming_59 : decode cX13_naming 59 = .ok (.iconst 1, 1) := by decide +kernel
theorem dX13_naming_60 : decode cX13_naming 60 = .ok (.iand, 1) := by decide +kernel
theorem dX13_naming_61 : decode cX13_naming 61 = .ok (.iload 4, 2) := by decide +kernel
theorem dX13_naming_63 : decode cX13_naming 63 = .ok (.ishl, 1) := by decide +kernel
theorem dX13_naming_64 : decode cX13_naming 64 = .ok (.ior, 1) := by decide +kernel
theorem dX13_naming_65 : decode cX13_naming 65 = .ok (.istore_n 3, 1) := by decide +kernel
theorem dX13_naming_66 : decode cX13_naming 66 = .ok (.iinc 4 1, 3) := by decide +kernel
theorem dX13_naming_69 : decode cX13_naming 69 = .ok (.goto (-41), 3) := by decide +kernel
theorem dX13_naming_72 : decode cX13_naming 72 = .ok (.iload_n 3, 1) := by decide +kernel
theorem dX13_naming_73 : decode cX13_naming 73 = .ok (.ireturn, 1) := by decide +kernel
theorem dX13_gainOf_0 : decode cX13_gainOf 0 = .ok (.aload_n 0, 1) := by decide +kernel
theorem dX13_gainOf_1 : decode cX13_gainOf 1 = .ok (.iload_n 1, 1) := by decide +kernel
theorem dX13_gainOf_2 : decode cX13_gainOf 2 = .ok (.invokevirtual 337, 3) := by decide +kernel
theorem dX13_gainOf_5 : decode cX13_gainOf 5 = .ok (.istore_n 3, 1) := by decide +kernel
theorem dX13_gainOf_6 : decode cX13_gainOf 6 = .ok (.aload_n 0, 1) := by decide +kernel
theorem dX13_gainOf_7 : decode cX13_gainOf 7 = .ok (.getfield 25, 3) := by decide +kernel
theorem dX13_gainOf_10 : decode cX13_gainOf 10 = .ok (.bipush 34, 2) := by decide +kernel
theorem dX13_gainOf_12 : decode cX13_gainOf 12 = .ok (.iload_n 2, 1) := by decide +kernel
theorem dX13_gainOf_13 : decode cX13_gainOf 13 = .ok (.iadd, 1) := by decide +kernel
theorem dX13_gainOf_14 : decode cX13_gainOf 14 = .ok (.iaload, 1) := by decide +kernel
theorem dX13_gainOf_15 : decode cX13_gainOf 15 = .ok (.istore 4, 2) := by decide +kernel
theorem dX13_gainOf_17 : decode cX13_gainOf 17 = .ok (.aload_n 0, 1) := by decide +kernel
theorem dX13_gainOf_18 : decode cX13_gainOf 18 = .ok (.getfield 25, 3) := by decide +kernel
theorem dX13_gainOf_21 : decode cX13_gainOf 21 = .ok (.bipush 34, 2) := by decide +kernel
theorem dX13_gainOf_23 : decode cX13_gainOf 23 = .ok (.iload_n 2, 1) := by decide +kernel
theorem dX13_gainOf_24 : decode cX13_gainOf 24 = .ok (.iadd, 1) := by decide +kernel
theorem dX13_gainOf_25 : decode cX13_gainOf 25 = .ok (.iconst 1, 1) := by decide +kernel
theorem dX13_gainOf_26 : decode cX13_gainOf 26 = .ok (.iastore, 1) := by decide +kernel
theorem dX13_gainOf_27 : decode cX13_gainOf 27 = .ok (.aload_n 0, 1) := by decide +kernel
theorem dX13_gainOf_28 : decode cX13_gainOf 28 = .ok (.iload_n 1, 1) := by decide +kernel
theorem dX13_gainOf_29 : decode cX13_gainOf 29 = .ok (.invokevirtual 337, 3) := by decide +kernel
theorem dX13_gainOf_32 : decode cX13_gainOf 32 = .ok (.istore 5, 2) := by decide +kernel
theorem dX13_gainOf_34 : decode cX13_gainOf 34 = .ok (.aload_n 0, 1) := by decide +kernel
theorem dX13_gainOf_35 : decode cX13_gainOf 35 = .ok (.getfield 25, 3) := by decide +kernel
theorem dX13_gainOf_38 : decode cX13_gainOf 38 = .ok (.bipush 34, 2) := by decide +kernel
theorem dX13_gainOf_40 : decode cX13_gainOf 40 = .ok (.iload_n 2, 1) := by decide +kernel
theorem dX13_gainOf_41 : decode cX13_gainOf 41 = .ok (.iadd, 1) := by decide +kernel
theorem dX13_gainOf_42 : decode cX13_gainOf 42 = .ok (.iload 4, 2) := by decide +kernel
theorem dX13_gainOf_44 : decode cX13_gainOf 44 = .ok (.iastore, 1) := by decide +kernel
theorem dX13_gainOf_45 : decode cX13_gainOf 45 = .ok (.iload_n 3, 1) := by decide +kernel
theorem dX13_gainOf_46 : decode cX13_gainOf 46 = .ok (.iload 5, 2) := by decide +kernel
theorem dX13_gainOf_48 : decode cX13_gainOf 48 = .ok (.isub, 1) := by decide +kernel
theorem dX13_gainOf_49 : decode cX13_gainOf 49 = .ok (.ireturn, 1) := by decide +kernel
theorem dX13_gain_0 : decode cX13_gain 0 = .ok (.aload_n 0, 1) := by decide +kernel
theorem dX13_gain_1 : decode cX13_gain 1 = .ok (.iconst 0, 1) := by decide +kernel
theorem dX13_gain_2 : decode cX13_gain 2 = .ok (.putfield 61, 3) := by decide +kernel
theorem dX13_gain_5 : decode cX13_gain 5 = .ok (.aload_n 0, 1) := by decide +kernel
theorem dX13_gain_6 : decode cX13_gain 6 = .ok (.iload_n 1, 1) := by decide +kernel
theorem dX13_gain_7 : decode cX13_gain 7 = .ok (.invokevirtual 206, 3) := by decide +kernel
theorem dX13_gain_10 : decode cX13_gain 10 = .ok (.ifCond .eq 20, 3) := by decide +kernel
theorem dX13_gain_13 : decode cX13_gain 13 = .ok (.aload_n 0, 1) := by decide +kernel
theorem dX13_gain_14 : decode cX13_gain 14 = .ok (.iload_n 2, 1) := by decide +kernel
theorem dX13_gain_15 : decode cX13_gain 15 = .ok (.invokevirtual 215, 3) := by decide +kernel
theorem dX13_gain_18 : decode cX13_gain 18 = .ok (.ifCond .eq 12, 3) := by decide +kernel
theorem dX13_gain_21 : decode cX13_gain 21 = .ok (.aload_n 0, 1) := by decide +kernel
theorem dX13_gain_22 : decode cX13_gain 22 = .ok (.iload_n 1, 1) := by decide +kernel
theorem dX13_gain_23 : decode cX13_gain 23 = .ok (.iload_n 2, 1) := by decide +kernel
theorem dX13_gain_24 : decode cX13_gain 24 = .ok (.invokevirtual 346, 3) := by decide +kernel
theorem dX13_gain_27 : decode cX13_gain 27 = .ok (.goto 6, 3) := by decide +kernel
theorem dX13_gain_30 : decode cX13_gain 30 = .ok (.ldc_w 349, 3) := by decide +kernel
theorem dX13_gain_33 : decode cX13_gain 33 = .ok (.ireturn, 1) := by decide +kernel
theorem dX13_against_0 : decode cX13_against 0 = .ok (.aload_n 0, 1) := by decide +kernel
theorem dX13_against_1 : decode cX13_against 1 = .ok (.iconst 0, 1) := by decide +kernel
theorem dX13_against_2 : decode cX13_against 2 = .ok (.putfield 61, 3) := by decide +kernel
theorem dX13_against_5 : decode cX13_against 5 = .ok (.aload_n 0, 1) := by decide +kernel
theorem dX13_against_6 : decode cX13_against 6 = .ok (.iload_n 1, 1) := by decide +kernel
theorem dX13_against_7 : decode cX13_against 7 = .ok (.invokevirtual 206, 3) := by decide +kernel
theorem dX13_against_10 : decode cX13_against 10 = .ok (.ifCond .eq 12, 3) := by decide +kernel
theorem dX13_against_13 : decode cX13_against 13 = .ok (.iload_n 2, 1) := by decide +kernel
theorem dX13_against_14 : decode cX13_against 14 = .ok (.ifCond .lt 8, 3) := by decide +kernel
theorem dX13_against_17 : decode cX13_against 17 = .ok (.iload_n 2, 1) := by decide +kernel
theorem dX13_against_18 : decode cX13_against 18 = .ok (.iconst 1, 1) := by decide +kernel
theorem dX13_against_19 : decode cX13_against 19 = .ok (.if_icmp .le 5, 3) := by decide +kernel
theorem dX13_against_22 : decode cX13_against 22 = .ok (.iconst (-1), 1) := by decide +kernel
theorem dX13_against_23 : decode cX13_against 23 = .ok (.ireturn, 1) := by decide +kernel
theorem dX13_against_24 : decode cX13_against 24 = .ok (.bipush (-2), 2) := by decide +kernel
theorem dX13_against_26 : decode cX13_against 26 = .ok (.istore_n 3, 1) := by decide +kernel
theorem dX13_against_27 : decode cX13_against 27 = .ok (.iconst 0, 1) := by decide +kernel
theorem dX13_against_28 : decode cX13_against 28 = .ok (.istore 4, 2) := by decide +kernel
theorem dX13_against_30 : decode cX13_against 30 = .ok (.iconst 0, 1) := by decide +kernel
theorem dX13_against_31 : decode cX13_against 31 = .ok (.istore 5, 2) := by decide +kernel
theorem dX13_against_33 : decode cX13_against 33 = .ok (.iload 5, 2) := by decide +kernel
theorem dX13_against_35 : decode cX13_against 35 = .ok (.aload_n 0, 1) := by decide +kernel
theorem dX13_against_36 : decode cX13_against 36 = .ok (.getfield 13, 3) := by decide +kernel
theorem dX13_against_39 : decode cX13_against 39 = .ok (.iconst 2, 1) := by decide +kernel
theorem dX13_against_40 : decode cX13_against 40 = .ok (.iaload, 1) := by decide +kernel
theorem dX13_against_41 : decode cX13_against 41 = .ok (.if_icmp .ge 35, 3) := by decide +kernel
theorem dX13_against_44 : decode cX13_against 44 = .ok (.aload_n 0, 1) := by decide +kernel
theorem dX13_against_45 : decode cX13_against 45 = .ok (.iload_n 1, 1) := by decide +kernel
theorem dX13_against_46 : decode cX13_against 46 = .ok (.iload 5, 2) := by decide +kernel
theorem dX13_against_48 : decode cX13_against 48 = .ok (.invokevirtual 346, 3) := by decide +kernel
theorem dX13_against_51 : decode cX13_against 51 = .ok (.istore 6, 2) := by decide +kernel
theorem dX13_against_53 : decode cX13_against 53 = .ok (.iload 6, 2) := by decide +kernel
theorem dX13_against_55 : decode cX13_against 55 = .ok (.iload 4, 2) := by decide +kernel
theorem dX13_against_57 : decode cX13_against 57 = .ok (.if_icmp .lt 6, 3) := by decide +kernel
theorem dX13_against_60 : decode cX13_against 60 = .ok (.goto 10, 3) := by decide +kernel
theorem dX13_against_63 : decode cX13_against 63 = .ok (.iload 5, 2) := by decide +kernel
theorem dX13_against_65 : decode cX13_against 65 = .ok (.istore_n 3, 1) := by decide +kernel
theorem dX13_against_66 : decode cX13_against 66 = .ok (.iload 6, 2) := by decide +kernel
theorem dX13_against_68 : decode cX13_against 68 = .ok (.istore 4, 2) := by decide +kernel
theorem dX13_against_70 : decode cX13_against 70 = .ok (.iinc 5 1, 3) := by decide +kernel
theorem dX13_against_73 : decode cX13_against 73 = .ok (.goto (-40), 3) := by decide +kernel
theorem dX13_against_76 : decode cX13_against 76 = .ok (.iload_n 3, 1) := by decide +kernel
theorem dX13_against_77 : decode cX13_against 77 = .ok (.bipush (-2), 2) := by decide +kernel
theorem dX13_against_79 : decode cX13_against 79 = .ok (.if_icmp .eq 7, 3) := by decide +kernel
theorem dX13_against_82 : decode cX13_against 82 = .ok (.iload_n 2, 1) := by decide +kernel
theorem dX13_against_83 : decode cX13_against 83 = .ok (.ifCond .ne 7, 3) := by decide +kernel
theorem dX13_against_86 : decode cX13_against 86 = .ok (.iload_n 3, 1) := by decide +kernel
theorem dX13_against_87 : decode cX13_against 87 = .ok (.goto 5, 3) := by decide +kernel
theorem dX13_against_90 : decode cX13_against 90 = .ok (.iload 4, 2) := by decide +kernel
theorem dX13_against_92 : decode cX13_against 92 = .ok (.ireturn, 1) := by decide +kernel
theorem dX13_others_0 : decode cX13_others 0 = .ok (.iconst 0, 1) := by decide +kernel
theorem dX13_others_1 : decode cX13_others 1 = .ok (.istore_n 2, 1) := by decide +kernel
theorem dX13_others_2 : decode cX13_others 2 = .ok (.iconst 0, 1) := by decide +kernel
theorem dX13_others_3 : decode cX13_others 3 = .ok (.istore_n 3, 1) := by decide +kernel
theorem dX13_others_4 : decode cX13_others 4 = .ok (.iload_n 3, 1) := by decide +kernel
theorem dX13_others_5 : decode cX13_others 5 = .ok (.aload_n 0, 1) := by decide +kernel
theorem dX13_others_6 : decode cX13_others 6 = .ok (.getfield 13, 3) := by decide +kernel
theorem dX13_others_9 : decode cX13_others 9 = .ok (.iconst 1, 1) := by decide +kernel
theorem dX13_others_10 : decode cX13_others 10 = .ok (.iaload, 1) := by decide +kernel
theorem dX13_others_11 : decode cX13_others 11 = .ok (.if_icmp .ge 38, 3) := by decide +kernel
theorem dX13_others_14 : decode cX13_others 14 = .ok (.iload_n 2, 1) := by decide +kernel
theorem dX13_others_15 : decode cX13_others 15 = .ok (.aload_n 0, 1) := by decide +kernel
theorem dX13_others_16 : decode cX13_others 16 = .ok (.iload_n 3, 1) := by decide +kernel
theorem dX13_others_17 : decode cX13_others 17 = .ok (.sipush 9999, 3) := by decide +kernel
theorem dX13_others_20 : decode cX13_others 20 = .ok (.invokevirtual 332, 3) := by decide +kernel
theorem dX13_others_23 : decode cX13_others 23 = .ok (.aload_n 0, 1) := by decide +kernel
theorem dX13_others_24 : decode cX13_others 24 = .ok (.bipush 34, 2) := by decide +kernel
theorem dX13_others_26 : decode cX13_others 26 = .ok (.iload_n 1, 1) := by decide +kernel
theorem dX13_others_27 : decode cX13_others 27 = .ok (.iadd, 1) := by decide +kernel
theorem dX13_others_28 : decode cX13_others 28 = .ok (.iconst 1, 1) := by decide +kernel
theorem dX13_others_29 : decode cX13_others 29 = .ok (.iload_n 3, 1) := by decide +kernel
theorem dX13_others_30 : decode cX13_others 30 = .ok (.invokevirtual 350, 3) := by decide +kernel
theorem dX13_others_33 : decode cX13_others 33 = .ok (.if_icmp .ne 7, 3) := by decide +kernel
theorem dX13_others_36 : decode cX13_others 36 = .ok (.iconst 0, 1) := by decide +kernel
theorem dX13_others_37 : decode cX13_others 37 = .ok (.goto 4, 3) := by decide +kernel
theorem dX13_others_40 : decode cX13_others 40 = .ok (.iconst 1, 1) := by decide +kernel
theorem dX13_others_41 : decode cX13_others 41 = .ok (.iadd, 1) := by decide +kernel
theorem dX13_others_42 : decode cX13_others 42 = .ok (.istore_n 2, 1) := by decide +kernel
theorem dX13_others_43 : decode cX13_others 43 = .ok (.iinc 3 1, 3) := by decide +kernel
theorem dX13_others_46 : decode cX13_others 46 = .ok (.goto (-42), 3) := by decide +kernel
theorem dX13_others_49 : decode cX13_others 49 = .ok (.iload_n 2, 1) := by decide +kernel
theorem dX13_others_50 : decode cX13_others 50 = .ok (.ireturn, 1) := by decide +kernel
theorem dX13_wouldBe_0 : decode cX13_wouldBe 0 = .ok (.aload_n 0, 1) := by decide +kernel
theorem dX13_wouldBe_1 : decode cX13_wouldBe 1 = .ok (.getfield 25, 3) := by decide +kernel
theorem dX13_wouldBe_4 : decode cX13_wouldBe 4 = .ok (.iload_n 1, 1) := by decide +kernel
theorem dX13_wouldBe_5 : decode cX13_wouldBe 5 = .ok (.iaload, 1) := by decide +kernel
theorem dX13_wouldBe_6 : decode cX13_wouldBe 6 = .ok (.istore 4, 2) := by decide +kernel
theorem dX13_wouldBe_8 : decode cX13_wouldBe 8 = .ok (.aload_n 0, 1) := by decide +kernel
theorem dX13_wouldBe_9 : decode cX13_wouldBe 9 = .ok (.getfield 25, 3) := by decide +kernel
theorem dX13_wouldBe_12 : decode cX13_wouldBe 12 = .ok (.iload_n 1, 1) := by decide +kernel
theorem dX13_wouldBe_13 : decode cX13_wouldBe 13 = .ok (.iload_n 2, 1) := by decide +kernel
theorem dX13_wouldBe_14 : decode cX13_wouldBe 14 = .ok (.iastore, 1) := by decide +kernel
theorem dX13_wouldBe_15 : decode cX13_wouldBe 15 = .ok (.aload_n 0, 1) := by decide +kernel
theorem dX13_wouldBe_16 : decode cX13_wouldBe 16 = .ok (.iload_n 3, 1) := by decide +kernel
theorem dX13_wouldBe_17 : decode cX13_wouldBe 17 = .ok (.sipush 9999, 3) := by decide +kernel
theorem dX13_wouldBe_20 : decode cX13_wouldBe 20 = .ok (.invokevirtual 332, 3) := by decide +kernel
theorem dX13_wouldBe_23 : decode cX13_wouldBe 23 = .ok (.istore 5, 2) := by decide +kernel
theorem dX13_wouldBe_25 : decode cX13_wouldBe 25 = .ok (.aload_n 0, 1) := by decide +kernel
theorem dX13_wouldBe_26 : decode cX13_wouldBe 26 = .ok (.getfield 25, 3) := by decide +kernel
theorem dX13_wouldBe_29 : decode cX13_wouldBe 29 = .ok (.iload_n 1, 1) := by decide +kernel
theorem dX13_wouldBe_30 : decode cX13_wouldBe 30 = .ok (.iload 4, 2) := by decide +kernel
theorem dX13_wouldBe_32 : decode cX13_wouldBe 32 = .ok (.iastore, 1) := by decide +kernel
theorem dX13_wouldBe_33 : decode cX13_wouldBe 33 = .ok (.iload 5, 2) := by decide +kernel
theorem dX13_wouldBe_35 : decode cX13_wouldBe 35 = .ok (.ireturn, 1) := by decide +kernel
theorem dX13_key_0 : decode cX13_key 0 = .ok (.aload_n 0, 1) := by decide +kernel
theorem dX13_key_1 : decode cX13_key 1 = .ok (.iconst 0, 1) := by decide +kernel
theorem dX13_key_2 : decode cX13_key 2 = .ok (.putfield 61, 3) := by decide +kernel
theorem dX13_key_5 : decode cX13_key 5 = .ok (.iload_n 1, 1) := by decide +kernel
theorem dX13_key_6 : decode cX13_key 6 = .ok (.ifCond .lt 8, 3) := by decide +kernel
theorem dX13_key_9 : decode cX13_key 9 = .ok (.iload_n 1, 1) := by decide +kernel
theorem dX13_key_10 : decode cX13_key 10 = .ok (.iconst 1, 1) := by decide +kernel
theorem dX13_key_11 : decode cX13_key 11 = .ok (.if_icmp .le 5, 3) := by decide +kernel
theorem dX13_key_14 : decode cX13_key 14 = .ok (.iconst (-1), 1) := by decide +kernel
theorem dX13_key_15 : decode cX13_key 15 = .ok (.ireturn, 1) := by decide +kernel
theorem dX13_key_16 : decode cX13_key 16 = .ok (.bipush (-2), 2) := by decide +kernel
theorem dX13_key_18 : decode cX13_key 18 = .ok (.istore_n 2, 1) := by decide +kernel
theorem dX13_key_19 : decode cX13_key 19 = .ok (.iconst (-1), 1) := by decide +kernel
theorem dX13_key_20 : decode cX13_key 20 = .ok (.istore_n 3, 1) := by decide +kernel
theorem dX13_key_21 : decode cX13_key 21 = .ok (.iconst 0, 1) := by decide +kernel
theorem dX13_key_22 : decode cX13_key 22 = .ok (.istore 4, 2) := by decide +kernel
theorem dX13_key_24 : decode cX13_key 24 = .ok (.iload 4, 2) := by decide +kernel
theorem dX13_key_26 : decode cX13_key 26 = .ok (.aload_n 0, 1) := by decide +kernel
theorem dX13_key_27 : decode cX13_key 27 = .ok (.getfield 13, 3) := by decide +kernel
theorem dX13_key_30 : decode cX13_key 30 = .ok (.iconst 2, 1) := by decide +kernel
theorem dX13_key_31 : decode cX13_key 31 = .ok (.iaload, 1) := by decide +kernel
theorem dX13_key_32 : decode cX13_key 32 = .ok (.if_icmp .ge 32, 3) := by decide +kernel
theorem dX13_key_35 : decode cX13_key 35 = .ok (.aload_n 0, 1) := by decide +kernel
theorem dX13_key_36 : decode cX13_key 36 = .ok (.iload 4, 2) := by decide +kernel
theorem dX13_key_38 : decode cX13_key 38 = .ok (.invokevirtual 353, 3) := by decide +kernel
theorem dX13_key_41 : decode cX13_key 41 = .ok (.istore 5, 2) := by decide +kernel
theorem dX13_key_43 : decode cX13_key 43 = .ok (.iload 5, 2) := by decide +kernel
theorem dX13_key_45 : decode cX13_key 45 = .ok (.iload_n 3, 1) := by decide +kernel
theorem dX13_key_46 : decode cX13_key 46 = .ok (.if_icmp .gt 6, 3) := by decide +kernel
theorem dX13_key_49 : decode cX13_key 49 = .ok (.goto 9, 3) := by decide +kernel
theorem dX13_key_52 : decode cX13_key 52 = .ok (.iload 4, 2) := by decide +kernel
theorem dX13_key_54 : decode cX13_key 54 = .ok (.istore_n 2, 1) := by decide +kernel
theorem dX13_key_55 : decode cX13_key 55 = .ok (.iload 5, 2) := by decide +kernel
theorem dX13_key_57 : decode cX13_key 57 = .ok (.istore_n 3, 1) := by decide +kernel
theorem dX13_key_58 : decode cX13_key 58 = .ok (.iinc 4 1, 3) := by decide +kernel
theorem dX13_key_61 : decode cX13_key 61 = .ok (.goto (-37), 3) := by decide +kernel
theorem dX13_key_64 : decode cX13_key 64 = .ok (.iload_n 2, 1) := by decide +kernel
theorem dX13_key_65 : decode cX13_key 65 = .ok (.bipush (-2), 2) := by decide +kernel
theorem dX13_key_67 : decode cX13_key 67 = .ok (.if_icmp .eq 7, 3) := by decide +kernel
theorem dX13_key_70 : decode cX13_key 70 = .ok (.iload_n 1, 1) := by decide +kernel
theorem dX13_key_71 : decode cX13_key 71 = .ok (.ifCond .ne 7, 3) := by decide +kernel
theorem dX13_key_74 : decode cX13_key 74 = .ok (.iload_n 2, 1) := by decide +kernel
theorem dX13_key_75 : decode cX13_key 75 = .ok (.goto 4, 3) := by decide +kernel
theorem dX13_key_78 : decode cX13_key 78 = .ok (.iload_n 3, 1) := by decide +kernel
theorem dX13_key_79 : decode cX13_key 79 = .ok (.ireturn, 1) := by decide +kernel
theorem dX13_wouldPaper_0 : decode cX13_wouldPaper 0 = .ok (.aload_n 0, 1) := by decide +kernel
theorem dX13_wouldPaper_1 : decode cX13_wouldPaper 1 = .ok (.iconst 0, 1) := by decide +kernel
theorem dX13_wouldPaper_2 : decode cX13_wouldPaper 2 = .ok (.putfield 61, 3) := by decide +kernel
theorem dX13_wouldPaper_5 : decode cX13_wouldPaper 5 = .ok (.aload_n 0, 1) := by decide +kernel
theorem dX13_wouldPaper_6 : decode cX13_wouldPaper 6 = .ok (.iload_n 1, 1) := by decide +kernel
theorem dX13_wouldPaper_7 : decode cX13_wouldPaper 7 = .ok (.invokevirtual 215, 3) := by decide +kernel
theorem dX13_wouldPaper_10 : decode cX13_wouldPaper 10 = .ok (.ifCond .eq 20, 3) := by decide +kernel
theorem dX13_wouldPaper_13 : decode cX13_wouldPaper 13 = .ok (.iload_n 2, 1) := by decide +kernel
theorem dX13_wouldPaper_14 : decode cX13_wouldPaper 14 = .ok (.ifCond .lt 16, 3) := by decide +kernel
theorem dX13_wouldPaper_17 : decode cX13_wouldPaper 17 = .ok (.iload_n 2, 1) := by decide +kernel
theorem dX13_wouldPaper_18 : decode cX13_wouldPaper 18 = .ok (.iconst 2, 1) := by decide +kernel
theorem dX13_wouldPaper_19 : decode cX13_wouldPaper 19 = .ok (.if_icmp .gt 11, 3) := by decide +kernel
theorem dX13_wouldPaper_22 : decode cX13_wouldPaper 22 = .ok (.aload_n 0, 1) := by decide +kernel
theorem dX13_wouldPaper_23 : decode cX13_wouldPaper 23 = .ok (.iload_n 3, 1) := by decide +kernel
theorem dX13_wouldPaper_24 : decode cX13_wouldPaper 24 = .ok (.invokevirtual 221, 3) := by decide +kernel
theorem dX13_wouldPaper_27 : decode cX13_wouldPaper 27 = .ok (.ifCond .ne 5, 3) := by decide +kernel
theorem dX13_wouldPaper_30 : decode cX13_wouldPaper 30 = .ok (.iconst (-1), 1) := by decide +kernel
theorem dX13_wouldPaper_31 : decode cX13_wouldPaper 31 = .ok (.ireturn, 1) := by decide +kernel
theorem dX13_wouldPaper_32 : decode cX13_wouldPaper 32 = .ok (.iload_n 2, 1) := by decide +kernel
theorem dX13_wouldPaper_33 : decode cX13_wouldPaper 33 = .ok (.iconst 2, 1) := by decide +kernel
theorem dX13_wouldPaper_34 : decode cX13_wouldPaper 34 = .ok (.if_icmp .ne 16, 3) := by decide +kernel
theorem dX13_wouldPaper_37 : decode cX13_wouldPaper 37 = .ok (.aload_n 0, 1) := by decide +kernel
theorem dX13_wouldPaper_38 : decode cX13_wouldPaper 38 = .ok (.bipush 34, 2) := by decide +kernel
theorem dX13_wouldPaper_40 : decode cX13_wouldPaper 40 = .ok (.iload_n 1, 1) := by decide +kernel
theorem dX13_wouldPaper_41 : decode cX13_wouldPaper 41 = .ok (.iadd, 1) := by decide +kernel
theorem dX13_wouldPaper_42 : decode cX13_wouldPaper 42 = .ok (.iconst 1, 1) := by decide +kernel
theorem dX13_wouldPaper_43 : decode cX13_wouldPaper 43 = .ok (.iload_n 3, 1) := by decide +kernel
theorem dX13_wouldPaper_44 : decode cX13_wouldPaper 44 = .ok (.invokevirtual 350, 3) := by decide +kernel
theorem dX13_wouldPaper_47 : decode cX13_wouldPaper 47 = .ok (.goto 22, 3) := by decide +kernel
theorem dX13_wouldPaper_50 : decode cX13_wouldPaper 50 = .ok (.aload_n 0, 1) := by decide +kernel
theorem dX13_wouldPaper_51 : decode cX13_wouldPaper 51 = .ok (.bipush 10, 2) := by decide +kernel
theorem dX13_wouldPaper_53 : decode cX13_wouldPaper 53 = .ok (.iload_n 1, 1) := by decide +kernel
theorem dX13_wouldPaper_54 : decode cX13_wouldPaper 54 = .ok (.iadd, 1) := by decide +kernel
theorem dX13_wouldPaper_55 : decode cX13_wouldPaper 55 = .ok (.iload_n 2, 1) := by decide +kernel
theorem dX13_wouldPaper_56 : decode cX13_wouldPaper 56 = .ok (.ifCond .ne 7, 3) := by decide +kernel
theorem dX13_wouldPaper_59 : decode cX13_wouldPaper 59 = .ok (.iconst 0, 1) := by decide +kernel
theorem dX13_wouldPaper_60 : decode cX13_wouldPaper 60 = .ok (.goto 5, 3) := by decide +kernel
theorem dX13_wouldPaper_63 : decode cX13_wouldPaper 63 = .ok (.bipush (-2), 2) := by decide +kernel
theorem dX13_wouldPaper_65 : decode cX13_wouldPaper 65 = .ok (.iload_n 3, 1) := by decide +kernel
theorem dX13_wouldPaper_66 : decode cX13_wouldPaper 66 = .ok (.invokevirtual 350, 3) := by decide +kernel
theorem dX13_wouldPaper_69 : decode cX13_wouldPaper 69 = .ok (.ireturn, 1) := by decide +kernel
theorem dX13_wouldDie_0 : decode cX13_wouldDie 0 = .ok (.aload_n 0, 1) := by decide +kernel
theorem dX13_wouldDie_1 : decode cX13_wouldDie 1 = .ok (.iconst 0, 1) := by decide +kernel
theorem dX13_wouldDie_2 : decode cX13_wouldDie 2 = .ok (.putfield 61, 3) := by decide +kernel
theorem dX13_wouldDie_5 : decode cX13_wouldDie 5 = .ok (.aload_n 0, 1) := by decide +kernel
theorem dX13_wouldDie_6 : decode cX13_wouldDie 6 = .ok (.iload_n 1, 1) := by decide +kernel
theorem dX13_wouldDie_7 : decode cX13_wouldDie 7 = .ok (.invokevirtual 206, 3) := by decide +kernel
theorem dX13_wouldDie_10 : decode cX13_wouldDie 10 = .ok (.ifCond .eq 23, 3) := by decide +kernel
theorem dX13_wouldDie_13 : decode cX13_wouldDie 13 = .ok (.iload_n 2, 1) := by decide +kernel
theorem dX13_wouldDie_14 : decode cX13_wouldDie 14 = .ok (.iconst (-1), 1) := by decide +kernel
theorem dX13_wouldDie_15 : decode cX13_wouldDie 15 = .ok (.if_icmp .eq 10, 3) := by decide +kernel
theorem dX13_wouldDie_18 : decode cX13_wouldDie 18 = .ok (.iload_n 2, 1) := by decide +kernel
theorem dX13_wouldDie_19 : decode cX13_wouldDie 19 = .ok (.invokestatic 230, 3) := by decide +kernel
theorem dX13_wouldDie_22 : decode cX13_wouldDie 22 = .ok (.ifCond .eq 11, 3) := by decide +kernel
theorem dX13_wouldDie_25 : decode cX13_wouldDie 25 = .ok (.aload_n 0, 1) := by decide +kernel
theorem dX13_wouldDie_26 : decode cX13_wouldDie 26 = .ok (.iload_n 3, 1) := by decide +kernel
theorem dX13_wouldDie_27 : decode cX13_wouldDie 27 = .ok (.invokevirtual 221, 3) := by decide +kernel
theorem dX13_wouldDie_30 : decode cX13_wouldDie 30 = .ok (.ifCond .ne 5, 3) := by decide +kernel
theorem dX13_wouldDie_33 : decode cX13_wouldDie 33 = .ok (.iconst (-1), 1) := by decide +kernel
theorem dX13_wouldDie_34 : decode cX13_wouldDie 34 = .ok (.ireturn, 1) := by decide +kernel
theorem dX13_wouldDie_35 : decode cX13_wouldDie 35 = .ok (.aload_n 0, 1) := by decide +kernel
theorem dX13_wouldDie_36 : decode cX13_wouldDie 36 = .ok (.iconst 0, 1) := by decide +kernel
theorem dX13_wouldDie_37 : decode cX13_wouldDie 37 = .ok (.iload_n 1, 1) := by decide +kernel
theorem dX13_wouldDie_38 : decode cX13_wouldDie 38 = .ok (.iadd, 1) := by decide +kernel
theorem dX13_wouldDie_39 : decode cX13_wouldDie 39 = .ok (.iload_n 2, 1) := by decide +kernel
theorem dX13_wouldDie_40 : decode cX13_wouldDie 40 = .ok (.iconst (-1), 1) := by decide +kernel
theorem dX13_wouldDie_41 : decode cX13_wouldDie 41 = .ok (.if_icmp .ne 8, 3) := by decide +kernel
theorem dX13_wouldDie_44 : decode cX13_wouldDie 44 = .ok (.bipush (-2), 2) := by decide +kernel
theorem dX13_wouldDie_46 : decode cX13_wouldDie 46 = .ok (.goto 4, 3) := by decide +kernel
theorem dX13_wouldDie_49 : decode cX13_wouldDie 49 = .ok (.iload_n 2, 1) := by decide +kernel
theorem dX13_wouldDie_50 : decode cX13_wouldDie 50 = .ok (.iload_n 3, 1) := by decide +kernel
theorem dX13_wouldDie_51 : decode cX13_wouldDie 51 = .ok (.invokevirtual 350, 3) := by decide +kernel
theorem dX13_wouldDie_54 : decode cX13_wouldDie 54 = .ok (.ireturn, 1) := by decide +kernel
theorem dX13_laysDay_0 : decode cX13_laysDay 0 = .ok (.iload_n 1, 1) := by decide +kernel
theorem dX13_laysDay_1 : decode cX13_laysDay 1 = .ok (.ifCond .lt 10, 3) := by decide +kernel
theorem dX13_laysDay_4 : decode cX13_laysDay 4 = .ok (.iload_n 1, 1) := by decide +kernel
theorem dX13_laysDay_5 : decode cX13_laysDay 5 = .ok (.sipush 9999, 3) := by decide +kernel
theorem dX13_laysDay_8 : decode cX13_laysDay 8 = .ok (.if_icmp .le 4, 3) := by decide +kernel
theorem dX13_laysDay_11 : decode cX13_laysDay 11 = .ok (.return_, 1) := by decide +kernel
theorem dX13_laysDay_12 : decode cX13_laysDay 12 = .ok (.aload_n 0, 1) := by decide +kernel
theorem dX13_laysDay_13 : decode cX13_laysDay 13 = .ok (.getfield 52, 3) := by decide +kernel
theorem dX13_laysDay_16 : decode cX13_laysDay 16 = .ok (.aload_n 0, 1) := by decide +kernel
theorem dX13_laysDay_17 : decode cX13_laysDay 17 = .ok (.getfield 356, 3) := by decide +kernel
theorem dX13_laysDay_20 : decode cX13_laysDay 20 = .ok (.iload_n 1, 1) := by decide +kernel
theorem dX13_laysDay_21 : decode cX13_laysDay 21 = .ok (.iastore, 1) := by decide +kernel
theorem dX13_laysDay_22 : decode cX13_laysDay 22 = .ok (.aload_n 0, 1) := by decide +kernel
theorem dX13_laysDay_23 : decode cX13_laysDay 23 = .ok (.dup, 1) := by decide +kernel
theorem dX13_laysDay_24 : decode cX13_laysDay 24 = .ok (.getfield 356, 3) := by decide +kernel
theorem dX13_laysDay_27 : decode cX13_laysDay 27 = .ok (.iconst 1, 1) := by decide +kernel
theorem dX13_laysDay_28 : decode cX13_laysDay 28 = .ok (.iadd, 1) := by decide +kernel
theorem dX13_laysDay_29 : decode cX13_laysDay 29 = .ok (.putfield 356, 3) := by decide +kernel
theorem dX13_laysDay_32 : decode cX13_laysDay 32 = .ok (.return_, 1) := by decide +kernel
theorem dX13_laysDays_0 : decode cX13_laysDays 0 = .ok (.aload_n 0, 1) := by decide +kernel
theorem dX13_laysDays_1 : decode cX13_laysDays 1 = .ok (.iconst 0, 1) := by decide +kernel
theorem dX13_laysDays_2 : decode cX13_laysDays 2 = .ok (.putfield 356, 3) := by decide +kernel
theorem dX13_laysDays_5 : decode cX13_laysDays 5 = .ok (.aload_n 0, 1) := by decide +kernel
theorem dX13_laysDays_6 : decode cX13_laysDays 6 = .ok (.iconst 0, 1) := by decide +kernel
theorem dX13_laysDays_7 : decode cX13_laysDays 7 = .ok (.invokevirtual 359, 3) := by decide +kernel
theorem dX13_laysDays_10 : decode cX13_laysDays 10 = .ok (.iconst 0, 1) := by decide +kernel
theorem dX13_laysDays_11 : decode cX13_laysDays 11 = .ok (.istore_n 1, 1) := by decide +kernel
theorem dX13_laysDays_12 : decode cX13_laysDays 12 = .ok (.iload_n 1, 1) := by decide +kernel
theorem dX13_laysDays_13 : decode cX13_laysDays 13 = .ok (.aload_n 0, 1) := by decide +kernel
theorem dX13_laysDays_14 : decode cX13_laysDays 14 = .ok (.getfield 13, 3) := by decide +kernel
theorem dX13_laysDays_17 : decode cX13_laysDays 17 = .ok (.iconst 2, 1) := by decide +kernel
theorem dX13_laysDays_18 : decode cX13_laysDays 18 = .ok (.iaload, 1) := by decide +kernel
theorem dX13_laysDays_19 : decode cX13_laysDays 19 = .ok (.if_icmp .ge 31, 3) := by decide +kernel
theorem dX13_laysDays_22 : decode cX13_laysDays 22 = .ok (.aload_n 0, 1) := by decide +kernel
theorem dX13_laysDays_23 : decode cX13_laysDays 23 = .ok (.aload_n 0, 1) := by decide +kernel
theorem dX13_laysDays_24 : decode cX13_laysDays 24 = .ok (.iload_n 1, 1) := by decide +kernel
theorem dX13_laysDays_25 : decode cX13_laysDays 25 = .ok (.iconst 1, 1) := by decide +kernel
theorem dX13_laysDays_26 : decode cX13_laysDays 26 = .ok (.invokevirtual 218, 3) := by decide +kernel
theorem dX13_laysDays_29 : decode cX13_laysDays 29 = .ok (.invokevirtual 359, 3) := by decide +kernel
theorem dX13_laysDays_32 : decode cX13_laysDays 32 = .ok (.aload_n 0, 1) := by decide +kernel
theorem dX13_laysDays_33 : decode cX13_laysDays 33 = .ok (.aload_n 0, 1) := by decide +kernel
theorem dX13_laysDays_34 : decode cX13_laysDays 34 = .ok (.iload_n 1, 1) := by decide +kernel
theorem dX13_laysDays_35 : decode cX13_laysDays 35 = .ok (.iconst 1, 1) := by decide +kernel
theorem dX13_laysDays_36 : decode cX13_laysDays 36 = .ok (.invokevirtual 218, 3) := by decide +kernel
theorem dX13_laysDays_39 : decode cX13_laysDays 39 = .ok (.iconst 1, 1) := by decide +kernel
theorem dX13_laysDays_40 : decode cX13_laysDays 40 = .ok (.iadd, 1) := by decide +kernel
theorem dX13_laysDays_41 : decode cX13_laysDays 41 = .ok (.invokevirtual 359, 3) := by decide +kernel
theorem dX13_laysDays_44 : decode cX13_laysDays 44 = .ok (.iinc 1 1, 3) := by decide +kernel
theorem dX13_laysDays_47 : decode cX13_laysDays 47 = .ok (.goto (-35), 3) := by decide +kernel
theorem dX13_laysDays_50 : decode cX13_laysDays 50 = .ok (.iconst 0, 1) := by decide +kernel
theorem dX13_laysDays_51 : decode cX13_laysDays 51 = .ok (.istore_n 1, 1) := by decide +kernel
theorem dX13_laysDays_52 : decode cX13_laysDays 52 = .ok (.iload_n 1, 1) := by decide +kernel
theorem dX13_laysDays_53 : decode cX13_laysDays 53 = .ok (.aload_n 0, 1) := by decide +kernel
theorem dX13_laysDays_54 : decode cX13_laysDays 54 = .ok (.getfield 25, 3) := by decide +kernel
theorem dX13_laysDays_57 : decode cX13_laysDays 57 = .ok (.bipush 64, 2) := by decide +kernel
theorem dX13_laysDays_59 : decode cX13_laysDays 59 = .ok (.iaload, 1) := by decide +kernel
theorem dX13_laysDays_60 : decode cX13_laysDays 60 = .ok (.if_icmp .ge 45, 3) := by decide +kernel
theorem dX13_laysDays_63 : decode cX13_laysDays 63 = .ok (.aload_n 0, 1) := by decide +kernel
theorem dX13_laysDays_64 : decode cX13_laysDays 64 = .ok (.aload_n 0, 1) := by decide +kernel
theorem dX13_laysDays_65 : decode cX13_laysDays 65 = .ok (.getfield 25, 3) := by decide +kernel
theorem dX13_laysDays_68 : decode cX13_laysDays 68 = .ok (.bipush 46, 2) := by decide +kernel
theorem dX13_laysDays_70 : decode cX13_laysDays 70 = .ok (.iconst 3, 1) := by decide +kernel
theorem dX13_laysDays_71 : decode cX13_laysDays 71 = .ok (.iload_n 1, 1) := by decide +kernel
theorem dX13_laysDays_72 : decode cX13_laysDays 72 = .ok (.imul, 1) := by decide +kernel
theorem dX13_laysDays_73 : decode cX13_laysDays 73 = .ok (.iadd, 1) := by decide +kernel
theorem dX13_laysDays_74 : decode cX13_laysDays 74 = .ok (.iconst 2, 1) := by decide +kernel
theorem dX13_laysDays_75 : decode cX13_laysDays 75 = .ok (.iadd, 1) := by decide +kernel
theorem dX13_laysDays_76 : decode cX13_laysDays 76 = .ok (.iaload, 1) := by decide +kernel
theorem dX13_laysDays_77 : decode cX13_laysDays 77 = .ok (.invokevirtual 359, 3) := by decide +kernel
theorem dX13_laysDays_80 : decode cX13_laysDays 80 = .ok (.aload_n 0, 1) := by decide +kernel
theorem dX13_laysDays_81 : decode cX13_laysDays 81 = .ok (.aload_n 0, 1) := by decide +kernel
theorem dX13_laysDays_82 : decode cX13_laysDays 82 = .ok (.getfield 25, 3) := by decide +kernel
theorem dX13_laysDays_85 : decode cX13_laysDays 85 = .ok (.bipush 46, 2) := by decide +kernel
theorem dX13_laysDays_87 : decode cX13_laysDays 87 = .ok (.iconst 3, 1) := by decide +kernel
theorem dX13_laysDays_88 : decode cX13_laysDays 88 = .ok (.iload_n 1, 1) := by decide +kernel
theorem dX13_laysDays_89 : decode cX13_laysDays 89 = .ok (.imul, 1) := by decide +kernel
theorem dX13_laysDays_90 : decode cX13_laysDays 90 = .ok (.iadd, 1) := by decide +kernel
theorem dX13_laysDays_91 : decode cX13_laysDays 91 = .ok (.iconst 2, 1) := by decide +kernel
theorem dX13_laysDays_92 : decode cX13_laysDays 92 = .ok (.iadd, 1) := by decide +kernel
theorem dX13_laysDays_93 : decode cX13_laysDays 93 = .ok (.iaload, 1) := by decide +kernel
theorem dX13_laysDays_94 : decode cX13_laysDays 94 = .ok (.iconst 1, 1) := by decide +kernel
theorem dX13_laysDays_95 : decode cX13_laysDays 95 = .ok (.iadd, 1) := by decide +kernel
theorem dX13_laysDays_96 : decode cX13_laysDays 96 = .ok (.invokevirtual 359, 3) := by decide +kernel
theorem dX13_laysDays_99 : decode cX13_laysDays 99 = .ok (.iinc 1 1, 3) := by decide +kernel
theorem dX13_laysDays_102 : decode cX13_laysDays 102 = .ok (.goto (-50), 3) := by decide +kernel
theorem dX13_laysDays_105 : decode cX13_laysDays 105 = .ok (.iconst 0, 1) := by decide +kernel
theorem dX13_laysDays_106 : decode cX13_laysDays 106 = .ok (.istore_n 1, 1) := by decide +kernel
theorem dX13_laysDays_107 : decode cX13_laysDays 107 = .ok (.iload_n 1, 1) := by decide +kernel
theorem dX13_laysDays_108 : decode cX13_laysDays 108 = .ok (.aload_n 0, 1) := by decide +kernel
theorem dX13_laysDays_109 : decode cX13_laysDays 109 = .ok (.getfield 13, 3) := by decide +kernel
theorem dX13_laysDays_112 : decode cX13_laysDays 112 = .ok (.iconst 0, 1) := by decide +kernel
theorem dX13_laysDays_113 : decode cX13_laysDays 113 = .ok (.iaload, 1) := by decide +kernel
theorem dX13_laysDays_114 : decode cX13_laysDays 114 = .ok (.if_icmp .ge 44, 3) := by decide +kernel
theorem dX13_laysDays_117 : decode cX13_laysDays 117 = .ok (.aload_n 0, 1) := by decide +kernel
theorem dX13_laysDays_118 : decode cX13_laysDays 118 = .ok (.aload_n 0, 1) := by decide +kernel
theorem dX13_laysDays_119 : decode cX13_laysDays 119 = .ok (.iload_n 1, 1) := by decide +kernel
theorem dX13_laysDays_120 : decode cX13_laysDays 120 = .ok (.invokevirtual 203, 3) := by decide +kernel
theorem dX13_laysDays_123 : decode cX13_laysDays 123 = .ok (.invokevirtual 359, 3) := by decide +kernel
theorem dX13_laysDays_126 : decode cX13_laysDays 126 = .ok (.aload_n 0, 1) := by decide +kernel
theorem dX13_laysDays_127 : decode cX13_laysDays 127 = .ok (.aload_n 0, 1) := by decide +kernel
theorem dX13_laysDays_128 : decode cX13_laysDays 128 = .ok (.iload_n 1, 1) := by decide +kernel
theorem dX13_laysDays_129 : decode cX13_laysDays 129 = .ok (.invokevirtual 203, 3) := by decide +kernel
theorem dX13_laysDays_132 : decode cX13_laysDays 132 = .ok (.bipush (-2), 2) := by decide +kernel
theorem dX13_laysDays_134 : decode cX13_laysDays 134 = .ok (.if_icmp .ne 8, 3) := by decide +kernel
theorem dX13_laysDays_137 : decode cX13_laysDays 137 = .ok (.bipush (-2), 2) := by decide +kernel
theorem dX13_laysDays_139 : decode cX13_laysDays 139 = .ok (.goto 10, 3) := by decide +kernel
theorem dX13_laysDays_142 : decode cX13_laysDays 142 = .ok (.aload_n 0, 1) := by decide +kernel
theorem dX13_laysDays_143 : decode cX13_laysDays 143 = .ok (.iload_n 1, 1) := by decide +kernel
theorem dX13_laysDays_144 : decode cX13_laysDays 144 = .ok (.invokevirtual 203, 3) := by decide +kernel
theorem dX13_laysDays_147 : decode cX13_laysDays 147 = .ok (.iconst 1, 1) := by decide +kernel
theorem dX13_laysDays_148 : decode cX13_laysDays 148 = .ok (.iadd, 1) := by decide +kernel
theorem dX13_laysDays_149 : decode cX13_laysDays 149 = .ok (.invokevirtual 359, 3) := by decide +kernel
theorem dX13_laysDays_152 : decode cX13_laysDays 152 = .ok (.iinc 1 1, 3) := by decide +kernel
theorem dX13_laysDays_155 : decode cX13_laysDays 155 = .ok (.goto (-48), 3) := by decide +kernel
theorem dX13_laysDays_158 : decode cX13_laysDays 158 = .ok (.return_, 1) := by decide +kernel
theorem dX13_dayFor_0 : decode cX13_dayFor 0 = .ok (.aload_n 0, 1) := by decide +kernel
theorem dX13_dayFor_1 : decode cX13_dayFor 1 = .ok (.iconst 0, 1) := by decide +kernel
theorem dX13_dayFor_2 : decode cX13_dayFor 2 = .ok (.putfield 61, 3) := by decide +kernel
theorem dX13_dayFor_5 : decode cX13_dayFor 5 = .ok (.aload_n 0, 1) := by decide +kernel
theorem dX13_dayFor_6 : decode cX13_dayFor 6 = .ok (.iload_n 1, 1) := by decide +kernel
theorem dX13_dayFor_7 : decode cX13_dayFor 7 = .ok (.invokevirtual 206, 3) := by decide +kernel
theorem dX13_dayFor_10 : decode cX13_dayFor 10 = .ok (.ifCond .eq 24, 3) := by decide +kernel
theorem dX13_dayFor_13 : decode cX13_dayFor 13 = .ok (.aload_n 0, 1) := by decide +kernel
theorem dX13_dayFor_14 : decode cX13_dayFor 14 = .ok (.iload_n 2, 1) := by decide +kernel
theorem dX13_dayFor_15 : decode cX13_dayFor 15 = .ok (.invokevirtual 206, 3) := by decide +kernel
theorem dX13_dayFor_18 : decode cX13_dayFor 18 = .ok (.ifCond .eq 16, 3) := by decide +kernel
theorem dX13_dayFor_21 : decode cX13_dayFor 21 = .ok (.iload_n 1, 1) := by decide +kernel
theorem dX13_dayFor_22 : decode cX13_dayFor 22 = .ok (.iload_n 2, 1) := by decide +kernel
theorem dX13_dayFor_23 : decode cX13_dayFor 23 = .ok (.if_icmp .eq 11, 3) := by decide +kernel
theorem dX13_dayFor_26 : decode cX13_dayFor 26 = .ok (.aload_n 0, 1) := by decide +kernel
theorem dX13_dayFor_27 : decode cX13_dayFor 27 = .ok (.iload_n 3, 1) := by decide +kernel
theorem dX13_dayFor_28 : decode cX13_dayFor 28 = .ok (.invokevirtual 221, 3) := by decide +kernel
theorem dX13_dayFor_31 : decode cX13_dayFor 31 = .ok (.ifCond .ne 5, 3) := by decide +kernel
theorem dX13_dayFor_34 : decode cX13_dayFor 34 = .ok (.iconst (-1), 1) := by decide +kernel
theorem dX13_dayFor_35 : decode cX13_dayFor 35 = .ok (.ireturn, 1) := by decide +kernel
theorem dX13_dayFor_36 : decode cX13_dayFor 36 = .ok (.aload_n 0, 1) := by decide +kernel
theorem dX13_dayFor_37 : decode cX13_dayFor 37 = .ok (.invokevirtual 362, 3) := by decide +kernel
theorem dX13_dayFor_40 : decode cX13_dayFor 40 = .ok (.bipush (-2), 2) := by decide +kernel
theorem dX13_dayFor_42 : decode cX13_dayFor 42 = .ok (.istore 4, 2) := by decide +kernel
theorem dX13_dayFor_44 : decode cX13_dayFor 44 = .ok (.iconst 0, 1) := by decide +kernel
theorem dX13_dayFor_45 : decode cX13_dayFor 45 = .ok (.istore 5, 2) := by decide +kernel
theorem dX13_dayFor_47 : decode cX13_dayFor 47 = .ok (.iload 5, 2) := by decide +kernel
theorem dX13_dayFor_49 : decode cX13_dayFor 49 = .ok (.aload_n 0, 1) := by decide +kernel
theorem dX13_dayFor_50 : decode cX13_dayFor 50 = .ok (.getfield 356, 3) := by decide +kernel
theorem dX13_dayFor_53 : decode cX13_dayFor 53 = .ok (.if_icmp .ge 77, 3) := by decide +kernel
theorem dX13_dayFor_56 : decode cX13_dayFor 56 = .ok (.iload 4, 2) := by decide +kernel
theorem dX13_dayFor_58 : decode cX13_dayFor 58 = .ok (.bipush (-2), 2) := by decide +kernel
theorem dX13_dayFor_60 : decode cX13_dayFor 60 = .ok (.if_icmp .eq 15, 3) := by decide +kernel
theorem dX13_dayFor_63 : decode cX13_dayFor 63 = .ok (.aload_n 0, 1) := by decide +kernel
theorem dX13_dayFor_64 : decode cX13_dayFor 64 = .ok (.getfield 52, 3) := by decide +kernel
theorem dX13_dayFor_67 : decode cX13_dayFor 67 = .ok (.iload 5, 2) := by decide +kernel
theorem dX13_dayFor_69 : decode cX13_dayFor 69 = .ok (.iaload, 1) := by decide +kernel
theorem dX13_dayFor_70 : decode cX13_dayFor 70 = .ok (.iload 4, 2) := by decide +kernel
theorem dX13_dayFor_72 : decode cX13_dayFor 72 = .ok (.if_icmp .ge 30, 3) := by decide +kernel
theorem dX13_dayFor_75 : decode cX13_dayFor 75 = .ok (.aload_n 0, 1) := by decide +kernel
theorem dX13_dayFor_76 : decode cX13_dayFor 76 = .ok (.iconst 0, 1) := by decide +kernel
theorem dX13_dayFor_77 : decode cX13_dayFor 77 = .ok (.iload_n 1, 1) := by decide +kernel
theorem dX13_dayFor_78 : decode cX13_dayFor 78 = .ok (.iadd, 1) := by decide +kernel
theorem dX13_dayFor_79 : decode cX13_dayFor 79 = .ok (.aload_n 0, 1) := by decide +kernel
theorem dX13_dayFor_80 : decode cX13_dayFor 80 = .ok (.getfield 52, 3) := by decide +kernel
theorem dX13_dayFor_83 : decode cX13_dayFor 83 = .ok (.iload 5, 2) := by decide +kernel
theorem dX13_dayFor_85 : decode cX13_dayFor 85 = .ok (.iaload, 1) := by decide +kernel
theorem dX13_dayFor_86 : decode cX13_dayFor 86 = .ok (.iload_n 3, 1) := by decide +kernel
theorem dX13_dayFor_87 : decode cX13_dayFor 87 = .ok (.invokevirtual 350, 3) := by decide +kernel
theorem dX13_dayFor_90 : decode cX13_dayFor 90 = .ok (.iload_n 2, 1) := by decide +kernel
theorem dX13_dayFor_91 : decode cX13_dayFor 91 = .ok (.ishr, 1) := by decide +kernel
theorem dX13_dayFor_92 : decode cX13_dayFor 92 = .ok (.iconst 1, 1) := by decide +kernel
theorem dX13_dayFor_93 : decode cX13_dayFor 93 = .ok (.iand, 1) := by decide +kernel
theorem dX13_dayFor_94 : decode cX13_dayFor 94 = .ok (.iconst 1, 1) := by decide +kernel
theorem dX13_dayFor_95 : decode cX13_dayFor 95 = .ok (.if_icmp .ne 7, 3) := by decide +kernel
theorem dX13_dayFor_98 : decode cX13_dayFor 98 = .ok (.iconst 1, 1) := by decide +kernel
theorem dX13_dayFor_99 : decode cX13_dayFor 99 = .ok (.goto 4, 3) := by decide +kernel
theorem dX13_dayFor_102 : decode cX13_dayFor 102 = .ok (.iconst 0, 1) := by decide +kernel
theorem dX13_dayFor_103 : decode cX13_dayFor 103 = .ok (.istore 6, 2) := by decide +kernel
theorem dX13_dayFor_105 : decode cX13_dayFor 105 = .ok (.iload 6, 2) := by decide +kernel
theorem dX13_dayFor_107 : decode cX13_dayFor 107 = .ok (.ifCond .eq 13, 3) := by decide +kernel
theorem dX13_dayFor_110 : decode cX13_dayFor 110 = .ok (.aload_n 0, 1) := by decide +kernel
theorem dX13_dayFor_111 : decode cX13_dayFor 111 = .ok (.getfield 52, 3) := by decide +kernel
theorem dX13_dayFor_114 : decode cX13_dayFor 114 = .ok (.iload 5, 2) := by decide +kernel
theorem dX13_dayFor_116 : decode cX13_dayFor 116 = .ok (.iaload, 1) := by decide +kernel
theorem dX13_dayFor_117 : decode cX13_dayFor 117 = .ok (.goto 5, 3) := by decide +kernel
theorem dX13_dayFor_120 : decode cX13_dayFor 120 = .ok (.iload 4, 2) := by decide +kernel
theorem dX13_dayFor_122 : decode cX13_dayFor 122 = .ok (.istore 4, 2) := by decide +kernel
theorem dX13_dayFor_124 : decode cX13_dayFor 124 = .ok (.iinc 5 1, 3) := by decide +kernel
theorem dX13_dayFor_127 : decode cX13_dayFor 127 = .ok (.goto (-80), 3) := by decide +kernel
theorem dX13_dayFor_130 : decode cX13_dayFor 130 = .ok (.iload 4, 2) := by decide +kernel
theorem dX13_dayFor_132 : decode cX13_dayFor 132 = .ok (.ireturn, 1) := by decide +kernel
theorem dX13_margin_0 : decode cX13_margin 0 = .ok (.aload_n 0, 1) := by decide +kernel
theorem dX13_margin_1 : decode cX13_margin 1 = .ok (.iconst 0, 1) := by decide +kernel
theorem dX13_margin_2 : decode cX13_margin 2 = .ok (.putfield 61, 3) := by decide +kernel
theorem dX13_margin_5 : decode cX13_margin 5 = .ok (.aload_n 0, 1) := by decide +kernel
theorem dX13_margin_6 : decode cX13_margin 6 = .ok (.iload_n 1, 1) := by decide +kernel
theorem dX13_margin_7 : decode cX13_margin 7 = .ok (.invokevirtual 215, 3) := by decide +kernel
theorem dX13_margin_10 : decode cX13_margin 10 = .ok (.ifCond .ne 5, 3) := by decide +kernel
theorem dX13_margin_13 : decode cX13_margin 13 = .ok (.iconst (-1), 1) := by decide +kernel
theorem dX13_margin_14 : decode cX13_margin 14 = .ok (.ireturn, 1) := by decide +kernel
theorem dX13_margin_15 : decode cX13_margin 15 = .ok (.aload_n 0, 1) := by decide +kernel
theorem dX13_margin_16 : decode cX13_margin 16 = .ok (.iload_n 1, 1) := by decide +kernel
theorem dX13_margin_17 : decode cX13_margin 17 = .ok (.iconst 0, 1) := by decide +kernel
theorem dX13_margin_18 : decode cX13_margin 18 = .ok (.invokevirtual 242, 3) := by decide +kernel
theorem dX13_margin_21 : decode cX13_margin 21 = .ok (.ifCond .ne 15, 3) := by decide +kernel
theorem dX13_margin_24 : decode cX13_margin 24 = .ok (.aload_n 0, 1) := by decide +kernel
theorem dX13_margin_25 : decode cX13_margin 25 = .ok (.iload_n 1, 1) := by decide +kernel
theorem dX13_margin_26 : decode cX13_margin 26 = .ok (.iconst 1, 1) := by decide +kernel
theorem dX13_margin_27 : decode cX13_margin 27 = .ok (.invokevirtual 242, 3) := by decide +kernel
theorem dX13_margin_30 : decode cX13_margin 30 = .ok (.ifCond .ne 6, 3) := by decide +kernel
theorem dX13_margin_33 : decode cX13_margin 33 = .ok (.bipush (-2), 2) := by decide +kernel
theorem dX13_margin_35 : decode cX13_margin 35 = .ok (.ireturn, 1) := by decide +kernel
theorem dX13_margin_36 : decode cX13_margin 36 = .ok (.aload_n 0, 1) := by decide +kernel
theorem dX13_margin_37 : decode cX13_margin 37 = .ok (.getfield 13, 3) := by decide +kernel
theorem dX13_margin_40 : decode cX13_margin 40 = .ok (.iconst 4, 1) := by decide +kernel
theorem dX13_margin_41 : decode cX13_margin 41 = .ok (.iaload, 1) := by decide +kernel
theorem dX13_margin_42 : decode cX13_margin 42 = .ok (.aload_n 0, 1) := by decide +kernel
theorem dX13_margin_43 : decode cX13_margin 43 = .ok (.getfield 13, 3) := by decide +kernel
theorem dX13_margin_46 : decode cX13_margin 46 = .ok (.bipush 9, 2) := by decide +kernel
theorem dX13_margin_48 : decode cX13_margin 48 = .ok (.iaload, 1) := by decide +kernel
theorem dX13_margin_49 : decode cX13_margin 49 = .ok (.invokestatic 365, 3) := by decide +kernel
theorem dX13_margin_52 : decode cX13_margin 52 = .ok (.istore_n 2, 1) := by decide +kernel
theorem dX13_margin_53 : decode cX13_margin 53 = .ok (.iload_n 2, 1) := by decide +kernel
theorem dX13_margin_54 : decode cX13_margin 54 = .ok (.ifCond .eq 31, 3) := by decide +kernel
theorem dX13_margin_57 : decode cX13_margin 57 = .ok (.aload_n 0, 1) := by decide +kernel
theorem dX13_margin_58 : decode cX13_margin 58 = .ok (.iload_n 1, 1) := by decide +kernel
theorem dX13_margin_59 : decode cX13_margin 59 = .ok (.iconst 4, 1) := by decide +kernel
theorem dX13_margin_60 : decode cX13_margin 60 = .ok (.invokevirtual 218, 3) := by decide +kernel
theorem dX13_margin_63 : decode cX13_margin 63 = .ok (.iconst 1, 1) := by decide +kernel
theorem dX13_margin_64 : decode cX13_margin 64 = .ok (.if_icmp .ne 24, 3) := by decide +kernel
theorem dX13_margin_67 : decode cX13_margin 67 = .ok (.aload_n 0, 1) := by decide +kernel
theorem dX13_margin_68 : decode cX13_margin 68 = .ok (.iconst 0, 1) := by decide +kernel
theorem dX13_margin_69 : decode cX13_margin 69 = .ok (.iconst 1, 1) := by decide +kernel
theorem dX13_margin_70 : decode cX13_margin 70 = .ok (.invokevirtual 239, 3) := by decide +kernel
theorem dX13_margin_73 : decode cX13_margin 73 = .ok (.ifCond .ne 12, 3) := by decide +kernel
theorem dX13_margin_76 : decode cX13_margin 76 = .ok (.aload_n 0, 1) := by decide +kernel
theorem dX13_margin_77 : decode cX13_margin 77 = .ok (.iconst 1, 1) := by decide +kernel
theorem dX13_margin_78 : decode cX13_margin 78 = .ok (.iconst 1, 1) := by decide +kernel
theorem dX13_margin_79 : decode cX13_margin 79 = .ok (.invokevirtual 239, 3) := by decide +kernel
theorem dX13_margin_82 : decode cX13_margin 82 = .ok (.ifCond .eq 6, 3) := by decide +kernel
theorem dX13_margin_85 : decode cX13_margin 85 = .ok (.bipush (-3), 2) := by decide +kernel
theorem dX13_margin_87 : decode cX13_margin 87 = .ok (.ireturn, 1) := by decide +kernel
theorem dX13_margin_88 : decode cX13_margin 88 = .ok (.aload_n 0, 1) := by decide +kernel
theorem dX13_margin_89 : decode cX13_margin 89 = .ok (.iload_n 1, 1) := by decide +kernel
theorem dX13_margin_90 : decode cX13_margin 90 = .ok (.invokevirtual 236, 3) := by decide +kernel
theorem dX13_margin_93 : decode cX13_margin 93 = .ok (.iload_n 2, 1) := by decide +kernel
theorem dX13_margin_94 : decode cX13_margin 94 = .ok (.isub, 1) := by decide +kernel
theorem dX13_margin_95 : decode cX13_margin 95 = .ok (.iconst 1, 1) := by decide +kernel
theorem dX13_margin_96 : decode cX13_margin 96 = .ok (.iadd, 1) := by decide +kernel
theorem dX13_margin_97 : decode cX13_margin 97 = .ok (.ireturn, 1) := by decide +kernel
theorem dX13_namedIn_0 : decode cX13_namedIn 0 = .ok (.aload_n 0, 1) := by decide +kernel
theorem dX13_namedIn_1 : decode cX13_namedIn 1 = .ok (.iload_n 1, 1) := by decide +kernel
theorem dX13_namedIn_2 : decode cX13_namedIn 2 = .ok (.bipush 6, 2) := by decide +kernel
theorem dX13_namedIn_4 : decode cX13_namedIn 4 = .ok (.invokevirtual 218, 3) := by decide +kernel
theorem dX13_namedIn_7 : decode cX13_namedIn 7 = .ok (.bipush (-2), 2) := by decide +kernel
theorem dX13_namedIn_9 : decode cX13_namedIn 9 = .ok (.if_icmp .ne 7, 3) := by decide +kernel
theorem dX13_namedIn_12 : decode cX13_namedIn 12 = .ok (.iconst 0, 1) := by decide +kernel
theorem dX13_namedIn_13 : decode cX13_namedIn 13 = .ok (.goto 12, 3) := by decide +kernel
theorem dX13_namedIn_16 : decode cX13_namedIn 16 = .ok (.iconst 1, 1) := by decide +kernel
theorem dX13_namedIn_17 : decode cX13_namedIn 17 = .ok (.aload_n 0, 1) := by decide +kernel
theorem dX13_namedIn_18 : decode cX13_namedIn 18 = .ok (.iload_n 1, 1) := by decide +kernel
theorem dX13_namedIn_19 : decode cX13_namedIn 19 = .ok (.bipush 6, 2) := by decide +kernel
theorem dX13_namedIn_21 : decode cX13_namedIn 21 = .ok (.invokevirtual 218, 3) := by decide +kernel
theorem dX13_namedIn_24 : decode cX13_namedIn 24 = .ok (.ishl, 1) := by decide +kernel
theorem dX13_namedIn_25 : decode cX13_namedIn 25 = .ok (.istore_n 2, 1) := by decide +kernel
theorem dX13_namedIn_26 : decode cX13_namedIn 26 = .ok (.iconst 0, 1) := by decide +kernel
theorem dX13_namedIn_27 : decode cX13_namedIn 27 = .ok (.istore_n 3, 1) := by decide +kernel
theorem dX13_namedIn_28 : decode cX13_namedIn 28 = .ok (.iload_n 3, 1) := by decide +kernel
theorem dX13_namedIn_29 : decode cX13_namedIn 29 = .ok (.aload_n 0, 1) := by decide +kernel
theorem dX13_namedIn_30 : decode cX13_namedIn 30 = .ok (.iload_n 1, 1) := by decide +kernel
theorem dX13_namedIn_31 : decode cX13_namedIn 31 = .ok (.iconst 5, 1) := by decide +kernel
theorem dX13_namedIn_32 : decode cX13_namedIn 32 = .ok (.invokevirtual 218, 3) := by decide +kernel
theorem dX13_namedIn_35 : decode cX13_namedIn 35 = .ok (.if_icmp .ge 69, 3) := by decide +kernel
theorem dX13_namedIn_38 : decode cX13_namedIn 38 = .ok (.sipush 142, 3) := by decide +kernel
theorem dX13_namedIn_41 : decode cX13_namedIn 41 = .ok (.iconst 5, 1) := by decide +kernel
theorem dX13_namedIn_42 : decode cX13_namedIn 42 = .ok (.bipush 6, 2) := by decide +kernel
theorem dX13_namedIn_44 : decode cX13_namedIn 44 = .ok (.iload_n 1, 1) := by decide +kernel
theorem dX13_namedIn_45 : decode cX13_namedIn 45 = .ok (.imul, 1) := by decide +kernel
theorem dX13_namedIn_46 : decode cX13_namedIn 46 = .ok (.iload_n 3, 1) := by decide +kernel
theorem dX13_namedIn_47 : decode cX13_namedIn 47 = .ok (.iadd, 1) := by decide +kernel
theorem dX13_namedIn_48 : decode cX13_namedIn 48 = .ok (.imul, 1) := by decide +kernel
theorem dX13_namedIn_49 : decode cX13_namedIn 49 = .ok (.iadd, 1) := by decide +kernel
theorem dX13_namedIn_50 : decode cX13_namedIn 50 = .ok (.istore 4, 2) := by decide +kernel
theorem dX13_namedIn_52 : decode cX13_namedIn 52 = .ok (.iload_n 2, 1) := by decide +kernel
theorem dX13_namedIn_53 : decode cX13_namedIn 53 = .ok (.iconst 1, 1) := by decide +kernel
theorem dX13_namedIn_54 : decode cX13_namedIn 54 = .ok (.aload_n 0, 1) := by decide +kernel
theorem dX13_namedIn_55 : decode cX13_namedIn 55 = .ok (.getfield 13, 3) := by decide +kernel
theorem dX13_namedIn_58 : decode cX13_namedIn 58 = .ok (.iload 4, 2) := by decide +kernel
theorem dX13_namedIn_60 : decode cX13_namedIn 60 = .ok (.iconst 1, 1) := by decide +kernel
theorem dX13_namedIn_61 : decode cX13_namedIn 61 = .ok (.iadd, 1) := by decide +kernel
theorem dX13_namedIn_62 : decode cX13_namedIn 62 = .ok (.iaload, 1) := by decide +kernel
theorem dX13_namedIn_63 : decode cX13_namedIn 63 = .ok (.ishl, 1) := by decide +kernel
theorem dX13_namedIn_64 : decode cX13_namedIn 64 = .ok (.ior, 1) := by decide +kernel
theorem dX13_namedIn_65 : decode cX13_namedIn 65 = .ok (.istore_n 2, 1) := by decide +kernel
theorem dX13_namedIn_66 : decode cX13_namedIn 66 = .ok (.iload_n 2, 1) := by decide +kernel
theorem dX13_namedIn_67 : decode cX13_namedIn 67 = .ok (.aload_n 0, 1) := by decide +kernel
theorem dX13_namedIn_68 : decode cX13_namedIn 68 = .ok (.getfield 13, 3) := by decide +kernel
theorem dX13_namedIn_71 : decode cX13_namedIn 71 = .ok (.iload 4, 2) := by decide +kernel
theorem dX13_namedIn_73 : decode cX13_namedIn 73 = .ok (.iconst 4, 1) := by decide +kernel
theorem dX13_namedIn_74 : decode cX13_namedIn 74 = .ok (.iadd, 1) := by decide +kernel
theorem dX13_namedIn_75 : decode cX13_namedIn 75 = .ok (.iaload, 1) := by decide +kernel
theorem dX13_namedIn_76 : decode cX13_namedIn 76 = .ok (.bipush (-2), 2) := by decide +kernel
theorem dX13_namedIn_78 : decode cX13_namedIn 78 = .ok (.if_icmp .ne 7, 3) := by decide +kernel
theorem dX13_namedIn_81 : decode cX13_namedIn 81 = .ok (.iconst 0, 1) := by decide +kernel
theorem dX13_namedIn_82 : decode cX13_namedIn 82 = .ok (.goto 14, 3) := by decide +kernel
theorem dX13_namedIn_85 : decode cX13_namedIn 85 = .ok (.iconst 1, 1) := by decide +kernel
theorem dX13_namedIn_86 : decode cX13_namedIn 86 = .ok (.aload_n 0, 1) := by decide +kernel
theorem dX13_namedIn_87 : decode cX13_namedIn 87 = .ok (.getfield 13, 3) := by decide +kernel
theorem dX13_namedIn_90 : decode cX13_namedIn 90 = .ok (.iload 4, 2) := by decide +kernel
theorem dX13_namedIn_92 : decode cX13_namedIn 92 = .ok (.iconst 4, 1) := by decide +kernel
theorem dX13_namedIn_93 : decode cX13_namedIn 93 = .ok (.iadd, 1) := by decide +kernel
theorem dX13_namedIn_94 : decode cX13_namedIn 94 = .ok (.iaload, 1) := by decide +kernel
theorem dX13_namedIn_95 : decode cX13_namedIn 95 = .ok (.ishl, 1) := by decide +kernel
theorem dX13_namedIn_96 : decode cX13_namedIn 96 = .ok (.ior, 1) := by decide +kernel
theorem dX13_namedIn_97 : decode cX13_namedIn 97 = .ok (.istore_n 2, 1) := by decide +kernel
theorem dX13_namedIn_98 : decode cX13_namedIn 98 = .ok (.iinc 3 1, 3) := by decide +kernel
theorem dX13_namedIn_101 : decode cX13_namedIn 101 = .ok (.goto (-73), 3) := by decide +kernel
theorem dX13_namedIn_104 : decode cX13_namedIn 104 = .ok (.iload_n 2, 1) := by decide +kernel
theorem dX13_namedIn_105 : decode cX13_namedIn 105 = .ok (.ireturn, 1) := by decide +kernel
theorem dX13_sees_0 : decode cX13_sees 0 = .ok (.aload_n 0, 1) := by decide +kernel
theorem dX13_sees_1 : decode cX13_sees 1 = .ok (.iconst 0, 1) := by decide +kernel
theorem dX13_sees_2 : decode cX13_sees 2 = .ok (.putfield 61, 3) := by decide +kernel
theorem dX13_sees_5 : decode cX13_sees 5 = .ok (.aload_n 0, 1) := by decide +kernel
theorem dX13_sees_6 : decode cX13_sees 6 = .ok (.iload_n 1, 1) := by decide +kernel
theorem dX13_sees_7 : decode cX13_sees 7 = .ok (.invokevirtual 206, 3) := by decide +kernel
theorem dX13_sees_10 : decode cX13_sees 10 = .ok (.ifCond .eq 18, 3) := by decide +kernel
theorem dX13_sees_13 : decode cX13_sees 13 = .ok (.aload_n 0, 1) := by decide +kernel
theorem dX13_sees_14 : decode cX13_sees 14 = .ok (.iload_n 2, 1) := by decide +kernel
theorem dX13_sees_15 : decode cX13_sees 15 = .ok (.invokevirtual 215, 3) := by decide +kernel
theorem dX13_sees_18 : decode cX13_sees 18 = .ok (.ifCond .eq 10, 3) := by decide +kernel
theorem dX13_sees_21 : decode cX13_sees 21 = .ok (.iload_n 3, 1) := by decide +kernel
theorem dX13_sees_22 : decode cX13_sees 22 = .ok (.invokestatic 230, 3) := by decide +kernel
theorem dX13_sees_25 : decode cX13_sees 25 = .ok (.ifCond .ne 5, 3) := by decide +kernel
theorem dX13_sees_28 : decode cX13_sees 28 = .ok (.iconst (-1), 1) := by decide +kernel
theorem dX13_sees_29 : decode cX13_sees 29 = .ok (.ireturn, 1) := by decide +kernel
theorem dX13_sees_30 : decode cX13_sees 30 = .ok (.aload_n 0, 1) := by decide +kernel
theorem dX13_sees_31 : decode cX13_sees 31 = .ok (.iload_n 1, 1) := by decide +kernel
theorem dX13_sees_32 : decode cX13_sees 32 = .ok (.iload_n 3, 1) := by decide +kernel
theorem dX13_sees_33 : decode cX13_sees 33 = .ok (.invokevirtual 233, 3) := by decide +kernel
theorem dX13_sees_36 : decode cX13_sees 36 = .ok (.ifCond .ne 5, 3) := by decide +kernel
theorem dX13_sees_39 : decode cX13_sees 39 = .ok (.iconst 0, 1) := by decide +kernel
theorem dX13_sees_40 : decode cX13_sees 40 = .ok (.ireturn, 1) := by decide +kernel
theorem dX13_sees_41 : decode cX13_sees 41 = .ok (.aload_n 0, 1) := by decide +kernel
theorem dX13_sees_42 : decode cX13_sees 42 = .ok (.iload_n 2, 1) := by decide +kernel
theorem dX13_sees_43 : decode cX13_sees 43 = .ok (.iconst 0, 1) := by decide +kernel
theorem dX13_sees_44 : decode cX13_sees 44 = .ok (.invokevirtual 218, 3) := by decide +kernel
theorem dX13_sees_47 : decode cX13_sees 47 = .ok (.istore 4, 2) := by decide +kernel
theorem dX13_sees_49 : decode cX13_sees 49 = .ok (.aload_n 0, 1) := by decide +kernel
theorem dX13_sees_50 : decode cX13_sees 50 = .ok (.iload 4, 2) := by decide +kernel
theorem dX13_sees_52 : decode cX13_sees 52 = .ok (.iload_n 3, 1) := by decide +kernel
theorem dX13_sees_53 : decode cX13_sees 53 = .ok (.invokevirtual 233, 3) := by decide +kernel
theorem dX13_sees_56 : decode cX13_sees 56 = .ok (.ifCond .eq 15, 3) := by decide +kernel
theorem dX13_sees_59 : decode cX13_sees 59 = .ok (.iload_n 1, 1) := by decide +kernel
theorem dX13_sees_60 : decode cX13_sees 60 = .ok (.iload 4, 2) := by decide +kernel
theorem dX13_sees_62 : decode cX13_sees 62 = .ok (.if_icmp .ne 7, 3) := by decide +kernel
theorem dX13_sees_65 : decode cX13_sees 65 = .ok (.iconst 1, 1) := by decide +kernel
theorem dX13_sees_66 : decode cX13_sees 66 = .ok (.goto 4, 3) := by decide +kernel
theorem dX13_sees_69 : decode cX13_sees 69 = .ok (.iconst 0, 1) := by decide +kernel
theorem dX13_sees_70 : decode cX13_sees 70 = .ok (.ireturn, 1) := by decide +kernel
theorem dX13_sees_71 : decode cX13_sees 71 = .ok (.aload_n 0, 1) := by decide +kernel
theorem dX13_sees_72 : decode cX13_sees 72 = .ok (.getfield 25, 3) := by decide +kernel
theorem dX13_sees_75 : decode cX13_sees 75 = .ok (.bipush 22, 2) := by decide +kernel
theorem dX13_sees_77 : decode cX13_sees 77 = .ok (.iload_n 2, 1) := by decide +kernel
theorem dX13_sees_78 : decode cX13_sees 78 = .ok (.iadd, 1) := by decide +kernel
theorem dX13_sees_79 : decode cX13_sees 79 = .ok (.iaload, 1) := by decide +kernel
theorem dX13_sees_80 : decode cX13_sees 80 = .ok (.aload_n 0, 1) := by decide +kernel
theorem dX13_sees_81 : decode cX13_sees 81 = .ok (.iload_n 2, 1) := by decide +kernel
theorem dX13_sees_82 : decode cX13_sees 82 = .ok (.invokevirtual 343, 3) := by decide +kernel
theorem dX13_sees_85 : decode cX13_sees 85 = .ok (.ior, 1) := by decide +kernel
theorem dX13_sees_86 : decode cX13_sees 86 = .ok (.aload_n 0, 1) := by decide +kernel
theorem dX13_sees_87 : decode cX13_sees 87 = .ok (.iload 4, 2) := by decide +kernel
theorem dX13_sees_89 : decode cX13_sees 89 = .ok (.invokevirtual 290, 3) := by decide +kernel
theorem dX13_sees_92 : decode cX13_sees 92 = .ok (.ior, 1) := by decide +kernel
theorem dX13_sees_93 : decode cX13_sees 93 = .ok (.istore 5, 2) := by decide +kernel
theorem dX13_sees_95 : decode cX13_sees 95 = .ok (.iload 5, 2) := by decide +kernel
theorem dX13_sees_97 : decode cX13_sees 97 = .ok (.iload_n 1, 1) := by decide +kernel
theorem dX13_sees_98 : decode cX13_sees 98 = .ok (.ishr, 1) := by decide +kernel
theorem dX13_sees_99 : decode cX13_sees 99 = .ok (.iconst 1, 1) := by decide +kernel
theorem dX13_sees_100 : decode cX13_sees 100 = .ok (.iand, 1) := by decide +kernel
theorem dX13_sees_101 : decode cX13_sees 101 = .ok (.ireturn, 1) := by decide +kernel
theorem dX13_manyLost_0 : decode cX13_manyLost 0 = .ok (.iconst 0, 1) := by decide +kernel
theorem dX13_manyLost_1 : decode cX13_manyLost 1 = .ok (.istore_n 1, 1) := by decide +kernel
theorem dX13_manyLost_2 : decode cX13_manyLost 2 = .ok (.iconst 0, 1) := by decide +kernel
theorem dX13_manyLost_3 : decode cX13_manyLost 3 = .ok (.istore_n 2, 1) := by decide +kernel
theorem dX13_manyLost_4 : decode cX13_manyLost 4 = .ok (.iload_n 2, 1) := by decide +kernel
theorem dX13_manyLost_5 : decode cX13_manyLost 5 = .ok (.aload_n 0, 1) := by decide +kernel
theorem dX13_manyLost_6 : decode cX13_manyLost 6 = .ok (.getfield 13, 3) := by decide +kernel
theorem dX13_manyLost_9 : decode cX13_manyLost 9 = .ok (.iconst 2, 1) := by decide +kernel
theorem dX13_manyLost_10 : decode cX13_manyLost 10 = .ok (.iaload, 1) := by decide +kernel
theorem dX13_manyLost_11 : decode cX13_manyLost 11 = .ok (.if_icmp .ge 31, 3) := by decide +kernel
theorem dX13_manyLost_14 : decode cX13_manyLost 14 = .ok (.iload_n 1, 1) := by decide +kernel
theorem dX13_manyLost_15 : decode cX13_manyLost 15 = .ok (.aload_n 0, 1) := by decide +kernel
theorem dX13_manyLost_16 : decode cX13_manyLost 16 = .ok (.getfield 25, 3) := by decide +kernel
theorem dX13_manyLost_19 : decode cX13_manyLost 19 = .ok (.bipush 10, 2) := by decide +kernel
theorem dX13_manyLost_21 : decode cX13_manyLost 21 = .ok (.iload_n 2, 1) := by decide +kernel
theorem dX13_manyLost_22 : decode cX13_manyLost 22 = .ok (.iadd, 1) := by decide +kernel
theorem dX13_manyLost_23 : decode cX13_manyLost 23 = .ok (.iaload, 1) := by decide +kernel
theorem dX13_manyLost_24 : decode cX13_manyLost 24 = .ok (.bipush (-2), 2) := by decide +kernel
theorem dX13_manyLost_26 : decode cX13_manyLost 26 = .ok (.if_icmp .ne 7, 3) := by decide +kernel
theorem dX13_manyLost_29 : decode cX13_manyLost 29 = .ok (.iconst 0, 1) := by decide +kernel
theorem dX13_manyLost_30 : decode cX13_manyLost 30 = .ok (.goto 4, 3) := by decide +kernel
theorem dX13_manyLost_33 : decode cX13_manyLost 33 = .ok (.iconst 1, 1) := by decide +kernel
theorem dX13_manyLost_34 : decode cX13_manyLost 34 = .ok (.iadd, 1) := by decide +kernel
theorem dX13_manyLost_35 : decode cX13_manyLost 35 = .ok (.istore_n 1, 1) := by decide +kernel
theorem dX13_manyLost_36 : decode cX13_manyLost 36 = .ok (.iinc 2 1, 3) := by decide +kernel
theorem dX13_manyLost_39 : decode cX13_manyLost 39 = .ok (.goto (-35), 3) := by decide +kernel
theorem dX13_manyLost_42 : decode cX13_manyLost 42 = .ok (.iload_n 1, 1) := by decide +kernel
theorem dX13_manyLost_43 : decode cX13_manyLost 43 = .ok (.ireturn, 1) := by decide +kernel
theorem dX13_manyDie_0 : decode cX13_manyDie 0 = .ok (.iconst 0, 1) := by decide +kernel
theorem dX13_manyDie_1 : decode cX13_manyDie 1 = .ok (.istore_n 1, 1) := by decide +kernel
theorem dX13_manyDie_2 : decode cX13_manyDie 2 = .ok (.iconst 0, 1) := by decide +kernel
theorem dX13_manyDie_3 : decode cX13_manyDie 3 = .ok (.istore_n 2, 1) := by decide +kernel
theorem dX13_manyDie_4 : decode cX13_manyDie 4 = .ok (.iload_n 2, 1) := by decide +kernel
theorem dX13_manyDie_5 : decode cX13_manyDie 5 = .ok (.aload_n 0, 1) := by decide +kernel
theorem dX13_manyDie_6 : decode cX13_manyDie 6 = .ok (.getfield 13, 3) := by decide +kernel
theorem dX13_manyDie_9 : decode cX13_manyDie 9 = .ok (.iconst 0, 1) := by decide +kernel
theorem dX13_manyDie_10 : decode cX13_manyDie 10 = .ok (.iaload, 1) := by decide +kernel
theorem dX13_manyDie_11 : decode cX13_manyDie 11 = .ok (.if_icmp .ge 27, 3) := by decide +kernel
theorem dX13_manyDie_14 : decode cX13_manyDie 14 = .ok (.iload_n 1, 1) := by decide +kernel
theorem dX13_manyDie_15 : decode cX13_manyDie 15 = .ok (.aload_n 0, 1) := by decide +kernel
theorem dX13_manyDie_16 : decode cX13_manyDie 16 = .ok (.iload_n 2, 1) := by decide +kernel
theorem dX13_manyDie_17 : decode cX13_manyDie 17 = .ok (.invokevirtual 203, 3) := by decide +kernel
theorem dX13_manyDie_20 : decode cX13_manyDie 20 = .ok (.bipush (-2), 2) := by decide +kernel
theorem dX13_manyDie_22 : decode cX13_manyDie 22 = .ok (.if_icmp .ne 7, 3) := by decide +kernel
theorem dX13_manyDie_25 : decode cX13_manyDie 25 = .ok (.iconst 0, 1) := by decide +kernel
theorem dX13_manyDie_26 : decode cX13_manyDie 26 = .ok (.goto 4, 3) := by decide +kernel
theorem dX13_manyDie_29 : decode cX13_manyDie 29 = .ok (.iconst 1, 1) := by decide +kernel
theorem dX13_manyDie_30 : decode cX13_manyDie 30 = .ok (.iadd, 1) := by decide +kernel
theorem dX13_manyDie_31 : decode cX13_manyDie 31 = .ok (.istore_n 1, 1) := by decide +kernel
theorem dX13_manyDie_32 : decode cX13_manyDie 32 = .ok (.iinc 2 1, 3) := by decide +kernel
theorem dX13_manyDie_35 : decode cX13_manyDie 35 = .ok (.goto (-31), 3) := by decide +kernel
theorem dX13_manyDie_38 : decode cX13_manyDie 38 = .ok (.iload_n 1, 1) := by decide +kernel
theorem dX13_manyDie_39 : decode cX13_manyDie 39 = .ok (.ireturn, 1) := by decide +kernel
theorem dX13_count_0 : decode cX13_count 0 = .ok (.aload_n 0, 1) := by decide +kernel
theorem dX13_count_1 : decode cX13_count 1 = .ok (.iconst 0, 1) := by decide +kernel
theorem dX13_count_2 : decode cX13_count 2 = .ok (.putfield 61, 3) := by decide +kernel
theorem dX13_count_5 : decode cX13_count 5 = .ok (.iload_n 1, 1) := by decide +kernel
theorem dX13_count_6 : decode cX13_count 6 = .ok (.tableswitch 106 0 8 #[50, 57, 64, 71, 78, 86, 91, 96, 101], 50) := by decide +kernel
theorem dX13_count_56 : decode cX13_count 56 = .ok (.aload_n 0, 1) := by decide +kernel
theorem dX13_count_57 : decode cX13_count 57 = .ok (.getfield 13, 3) := by decide +kernel
theorem dX13_count_60 : decode cX13_count 60 = .ok (.iconst 3, 1) := by decide +kernel
theorem dX13_count_61 : decode cX13_count 61 = .ok (.iaload, 1) := by decide +kernel
theorem dX13_count_62 : decode cX13_count 62 = .ok (.ireturn, 1) := by decide +kernel
theorem dX13_count_63 : decode cX13_count 63 = .ok (.aload_n 0, 1) := by decide +kernel
theorem dX13_count_64 : decode cX13_count 64 = .ok (.getfield 13, 3) := by decide +kernel
theorem dX13_count_67 : decode cX13_count 67 = .ok (.iconst 0, 1) := by decide +kernel
theorem dX13_count_68 : decode cX13_count 68 = .ok (.iaload, 1) := by decide +kernel
theorem dX13_count_69 : decode cX13_count 69 = .ok (.ireturn, 1) := by decide +kernel
theorem dX13_count_70 : decode cX13_count 70 = .ok (.aload_n 0, 1) := by decide +kernel
theorem dX13_count_71 : decode cX13_count 71 = .ok (.getfield 13, 3) := by decide +kernel
theorem dX13_count_74 : decode cX13_count 74 = .ok (.iconst 1, 1) := by decide +kernel
theorem dX13_count_75 : decode cX13_count 75 = .ok (.iaload, 1) := by decide +kernel
theorem dX13_count_76 : decode cX13_count 76 = .ok (.ireturn, 1) := by decide +kernel
theorem dX13_count_77 : decode cX13_count 77 = .ok (.aload_n 0, 1) := by decide +kernel
theorem dX13_count_78 : decode cX13_count 78 = .ok (.getfield 13, 3) := by decide +kernel
theorem dX13_count_81 : decode cX13_count 81 = .ok (.iconst 2, 1) := by decide +kernel
theorem dX13_count_82 : decode cX13_count 82 = .ok (.iaload, 1) := by decide +kernel
theorem dX13_count_83 : decode cX13_count 83 = .ok (.ireturn, 1) := by decide +kernel
theorem dX13_count_84 : decode cX13_count 84 = .ok (.aload_n 0, 1) := by decide +kernel
theorem dX13_count_85 : decode cX13_count 85 = .ok (.getfield 25, 3) := by decide +kernel
theorem dX13_count_88 : decode cX13_count 88 = .ok (.bipush 64, 2) := by decide +kernel
theorem dX13_count_90 : decode cX13_count 90 = .ok (.iaload, 1) := by decide +kernel
theorem dX13_count_91 : decode cX13_count 91 = .ok (.ireturn, 1) := by decide +kernel
theorem dX13_count_92 : decode cX13_count 92 = .ok (.aload_n 0, 1) := by decide +kernel
theorem dX13_count_93 : decode cX13_count 93 = .ok (.invokevirtual 370, 3) := by decide +kernel
theorem dX13_count_96 : decode cX13_count 96 = .ok (.ireturn, 1) := by decide +kernel
theorem dX13_count_97 : decode cX13_count 97 = .ok (.aload_n 0, 1) := by decide +kernel
theorem dX13_count_98 : decode cX13_count 98 = .ok (.invokevirtual 373, 3) := by decide +kernel
theorem dX13_count_101 : decode cX13_count 101 = .ok (.ireturn, 1) := by decide +kernel
theorem dX13_count_102 : decode cX13_count 102 = .ok (.aload_n 0, 1) := by decide +kernel
theorem dX13_count_103 : decode cX13_count 103 = .ok (.getfield 194, 3) := by decide +kernel
theorem dX13_count_106 : decode cX13_count 106 = .ok (.ireturn, 1) := by decide +kernel
theorem dX13_count_107 : decode cX13_count 107 = .ok (.aload_n 0, 1) := by decide +kernel
theorem dX13_count_108 : decode cX13_count 108 = .ok (.getfield 64, 3) := by decide +kernel
theorem dX13_count_111 : decode cX13_count 111 = .ok (.ireturn, 1) := by decide +kernel
theorem dX13_count_112 : decode cX13_count 112 = .ok (.iconst (-1), 1) := by decide +kernel
theorem dX13_count_113 : decode cX13_count 113 = .ok (.ireturn, 1) := by decide +kernel
theorem dJx29ce0_ordinal_8abf5_0 : decode cJx29ce0_ordinal_8abf5 0 = .ok (.aload_n 0, 1) := by decide +kernel
theorem dJx29ce0_ordinal_8abf5_1 : decode cJx29ce0_ordinal_8abf5 1 = .ok (.getfield 7, 3) := by decide +kernel
theorem dJx29ce0_ordinal_8abf5_4 : decode cJx29ce0_ordinal_8abf5 4 = .ok (.ireturn, 1) := by decide +kernel
theorem dJ6_bitCount_0f7a4_0 : decode cJ6_bitCount_0f7a4 0 = .ok (.iload_n 0, 1) := by decide +kernel
theorem dJ6_bitCount_0f7a4_1 : decode cJ6_bitCount_0f7a4 1 = .ok (.iload_n 0, 1) := by decide +kernel
theorem dJ6_bitCount_0f7a4_2 : decode cJ6_bitCount_0f7a4 2 = .ok (.iconst 1, 1) := by decide +kernel
theorem dJ6_bitCount_0f7a4_3 : decode cJ6_bitCount_0f7a4 3 = .ok (.iushr, 1) := by decide +kernel
theorem dJ6_bitCount_0f7a4_4 : decode cJ6_bitCount_0f7a4 4 = .ok (.ldc_w 265, 3) := by decide +kernel
theorem dJ6_bitCount_0f7a4_7 : decode cJ6_bitCount_0f7a4 7 = .ok (.iand, 1) := by decide +kernel
theorem dJ6_bitCount_0f7a4_8 : decode cJ6_bitCount_0f7a4 8 = .ok (.isub, 1) := by decide +kernel
theorem dJ6_bitCount_0f7a4_9 : decode cJ6_bitCount_0f7a4 9 = .ok (.istore_n 0, 1) := by decide +kernel
theorem dJ6_bitCount_0f7a4_10 : decode cJ6_bitCount_0f7a4 10 = .ok (.iload_n 0, 1) := by decide +kernel
theorem dJ6_bitCount_0f7a4_11 : decode cJ6_bitCount_0f7a4 11 = .ok (.ldc_w 266, 3) := by decide +kernel
theorem dJ6_bitCount_0f7a4_14 : decode cJ6_bitCount_0f7a4 14 = .ok (.iand, 1) := by decide +kernel
theorem dJ6_bitCount_0f7a4_15 : decode cJ6_bitCount_0f7a4 15 = .ok (.iload_n 0, 1) := by decide +kernel
theorem dJ6_bitCount_0f7a4_16 : decode cJ6_bitCount_0f7a4 16 = .ok (.iconst 2, 1) := by decide +kernel
theorem dJ6_bitCount_0f7a4_17 : decode cJ6_bitCount_0f7a4 17 = .ok (.iushr, 1) := by decide +kernel
theorem dJ6_bitCount_0f7a4_18 : decode cJ6_bitCount_0f7a4 18 = .ok (.ldc_w 266, 3) := by decide +kernel
theorem dJ6_bitCount_0f7a4_21 : decode cJ6_bitCount_0f7a4 21 = .ok (.iand, 1) := by decide +kernel
theorem dJ6_bitCount_0f7a4_22 : decode cJ6_bitCount_0f7a4 22 = .ok (.iadd, 1) := by decide +kernel
theorem dJ6_bitCount_0f7a4_23 : decode cJ6_bitCount_0f7a4 23 = .ok (.istore_n 0, 1) := by decide +kernel
theorem dJ6_bitCount_0f7a4_24 : decode cJ6_bitCount_0f7a4 24 = .ok (.iload_n 0, 1) := by decide +kernel
theorem dJ6_bitCount_0f7a4_25 : decode cJ6_bitCount_0f7a4 25 = .ok (.iload_n 0, 1) := by decide +kernel
theorem dJ6_bitCount_0f7a4_26 : decode cJ6_bitCount_0f7a4 26 = .ok (.iconst 4, 1) := by decide +kernel
theorem dJ6_bitCount_0f7a4_27 : decode cJ6_bitCount_0f7a4 27 = .ok (.iushr, 1) := by decide +kernel
theorem dJ6_bitCount_0f7a4_28 : decode cJ6_bitCount_0f7a4 28 = .ok (.iadd, 1) := by decide +kernel
theorem dJ6_bitCount_0f7a4_29 : decode cJ6_bitCount_0f7a4 29 = .ok (.ldc_w 267, 3) := by decide +kernel
theorem dJ6_bitCount_0f7a4_32 : decode cJ6_bitCount_0f7a4 32 = .ok (.iand, 1) := by decide +kernel
theorem dJ6_bitCount_0f7a4_33 : decode cJ6_bitCount_0f7a4 33 = .ok (.istore_n 0, 1) := by decide +kernel
theorem dJ6_bitCount_0f7a4_34 : decode cJ6_bitCount_0f7a4 34 = .ok (.iload_n 0, 1) := by decide +kernel
theorem dJ6_bitCount_0f7a4_35 : decode cJ6_bitCount_0f7a4 35 = .ok (.iload_n 0, 1) := by decide +kernel
theorem dJ6_bitCount_0f7a4_36 : decode cJ6_bitCount_0f7a4 36 = .ok (.bipush 8, 2) := by decide +kernel
theorem dJ6_bitCount_0f7a4_38 : decode cJ6_bitCount_0f7a4 38 = .ok (.iushr, 1) := by decide +kernel
theorem dJ6_bitCount_0f7a4_39 : decode cJ6_bitCount_0f7a4 39 = .ok (.iadd, 1) := by decide +kernel
theorem dJ6_bitCount_0f7a4_40 : decode cJ6_bitCount_0f7a4 40 = .ok (.istore_n 0, 1) := by decide +kernel
theorem dJ6_bitCount_0f7a4_41 : decode cJ6_bitCount_0f7a4 41 = .ok (.iload_n 0, 1) := by decide +kernel
theorem dJ6_bitCount_0f7a4_42 : decode cJ6_bitCount_0f7a4 42 = .ok (.iload_n 0, 1) := by decide +kernel
theorem dJ6_bitCount_0f7a4_43 : decode cJ6_bitCount_0f7a4 43 = .ok (.bipush 16, 2) := by decide +kernel
theorem dJ6_bitCount_0f7a4_45 : decode cJ6_bitCount_0f7a4 45 = .ok (.iushr, 1) := by decide +kernel
theorem dJ6_bitCount_0f7a4_46 : decode cJ6_bitCount_0f7a4 46 = .ok (.iadd, 1) := by decide +kernel
theorem dJ6_bitCount_0f7a4_47 : decode cJ6_bitCount_0f7a4 47 = .ok (.istore_n 0, 1) := by decide +kernel
theorem dJ6_bitCount_0f7a4_48 : decode cJ6_bitCount_0f7a4 48 = .ok (.iload_n 0, 1) := by decide +kernel
theorem dJ6_bitCount_0f7a4_49 : decode cJ6_bitCount_0f7a4 49 = .ok (.bipush 63, 2) := by decide +kernel
theorem dJ6_bitCount_0f7a4_51 : decode cJ6_bitCount_0f7a4 51 = .ok (.iand, 1) := by decide +kernel
theorem dJ6_bitCount_0f7a4_52 : decode cJ6_bitCount_0f7a4 52 = .ok (.ireturn, 1) := by decide +kernel
theorem dJ9_max_7cf53_0 : decode cJ9_max_7cf53 0 = .ok (.iload_n 0, 1) := by decide +kernel
theorem dJ9_max_7cf53_1 : decode cJ9_max_7cf53 1 = .ok (.iload_n 1, 1) := by decide +kernel
theorem dJ9_max_7cf53_2 : decode cJ9_max_7cf53 2 = .ok (.if_icmp .lt 7, 3) := by decide +kernel
theorem dJ9_max_7cf53_5 : decode cJ9_max_7cf53 5 = .ok (.iload_n 0, 1) := by decide +kernel
theorem dJ9_max_7cf53_6 : decode cJ9_max_7cf53 6 = .ok (.goto 4, 3) := by decide +kernel
theorem dJ9_max_7cf53_9 : decode cJ9_max_7cf53 9 = .ok (.iload_n 1, 1) := by decide +kernel
theorem dJ9_max_7cf53_10 : decode cJ9_max_7cf53 10 = .ok (.ireturn, 1) := by decide +kernel
theorem dJ9_min_7cf53_0 : decode cJ9_min_7cf53 0 = .ok (.iload_n 0, 1) := by decide +kernel
theorem dJ9_min_7cf53_1 : decode cJ9_min_7cf53 1 = .ok (.iload_n 1, 1) := by decide +kernel
theorem dJ9_min_7cf53_2 : decode cJ9_min_7cf53 2 = .ok (.if_icmp .gt 7, 3) := by decide +kernel
theorem dJ9_min_7cf53_5 : decode cJ9_min_7cf53 5 = .ok (.iload_n 0, 1) := by decide +kernel
theorem dJ9_min_7cf53_6 : decode cJ9_min_7cf53 6 = .ok (.goto 4, 3) := by decide +kernel
theorem dJ9_min_7cf53_9 : decode cJ9_min_7cf53 9 = .ok (.iload_n 1, 1) := by decide +kernel
theorem dJ9_min_7cf53_10 : decode cJ9_min_7cf53 10 = .ok (.ireturn, 1) := by decide +kernel
theorem dJ0_length_8abf5_0 : decode cJ0_length_8abf5 0 = .ok (.aload_n 0, 1) := by decide +kernel
theorem dJ0_length_8abf5_1 : decode cJ0_length_8abf5 1 = .ok (.getfield 9, 3) := by decide +kernel
theorem dJ0_length_8abf5_4 : decode cJ0_length_8abf5 4 = .ok (.arraylength, 1) := by decide +kernel
theorem dJ0_length_8abf5_5 : decode cJ0_length_8abf5 5 = .ok (.aload_n 0, 1) := by decide +kernel
theorem dJ0_length_8abf5_6 : decode cJ0_length_8abf5 6 = .ok (.invokevirtual 335, 3) := by decide +kernel
theorem dJ0_length_8abf5_9 : decode cJ0_length_8abf5 9 = .ok (.ishr, 1) := by decide +kernel
theorem dJ0_length_8abf5_10 : decode cJ0_length_8abf5 10 = .ok (.ireturn, 1) := by decide +kernel
theorem dJ0_charAt_5068e_0 : decode cJ0_charAt_5068e 0 = .ok (.aload_n 0, 1) := by decide +kernel
theorem dJ0_charAt_5068e_1 : decode cJ0_charAt_5068e 1 = .ok (.invokevirtual 492, 3) := by decide +kernel
theorem dJ0_charAt_5068e_4 : decode cJ0_charAt_5068e 4 = .ok (.ifCond .eq 12, 3) := by decide +kernel
theorem dJ0_charAt_5068e_7 : decode cJ0_charAt_5068e 7 = .ok (.aload_n 0, 1) := by decide +kernel
theorem dJ0_charAt_5068e_8 : decode cJ0_charAt_5068e 8 = .ok (.getfield 9, 3) := by decide +kernel
theorem dJ0_charAt_5068e_11 : decode cJ0_charAt_5068e 11 = .ok (.iload_n 1, 1) := by decide +kernel
theorem dJ0_charAt_5068e_12 : decode cJ0_charAt_5068e 12 = .ok (.invokestatic 495, 3) := by decide +kernel
theorem dJ0_charAt_5068e_15 : decode cJ0_charAt_5068e 15 = .ok (.ireturn, 1) := by decide +kernel
theorem dJ0_charAt_5068e_16 : decode cJ0_charAt_5068e 16 = .ok (.aload_n 0, 1) := by decide +kernel
theorem dJ0_charAt_5068e_17 : decode cJ0_charAt_5068e 17 = .ok (.getfield 9, 3) := by decide +kernel
theorem dJ0_charAt_5068e_20 : decode cJ0_charAt_5068e 20 = .ok (.iload_n 1, 1) := by decide +kernel
theorem dJ0_charAt_5068e_21 : decode cJ0_charAt_5068e 21 = .ok (.invokestatic 498, 3) := by decide +kernel
theorem dJ0_charAt_5068e_24 : decode cJ0_charAt_5068e 24 = .ok (.ireturn, 1) := by decide +kernel
theorem dJ0_coder_7d493_0 : decode cJ0_coder_7d493 0 = .ok (.getstatic 38, 3) := by decide +kernel
theorem dJ0_coder_7d493_3 : decode cJ0_coder_7d493 3 = .ok (.ifCond .eq 10, 3) := by decide +kernel
theorem dJ0_coder_7d493_6 : decode cJ0_coder_7d493 6 = .ok (.aload_n 0, 1) := by decide +kernel
theorem dJ0_coder_7d493_7 : decode cJ0_coder_7d493 7 = .ok (.getfield 15, 3) := by decide +kernel
theorem dJ0_coder_7d493_10 : decode cJ0_coder_7d493 10 = .ok (.goto 4, 3) := by decide +kernel
theorem dJ0_coder_7d493_13 : decode cJ0_coder_7d493 13 = .ok (.iconst 1, 1) := by decide +kernel
theorem dJ0_coder_7d493_14 : decode cJ0_coder_7d493 14 = .ok (.ireturn, 1) := by decide +kernel
theorem dJ0_isLatin1_aae02_0 : decode cJ0_isLatin1_aae02 0 = .ok (.getstatic 38, 3) := by decide +kernel
theorem dJ0_isLatin1_aae02_3 : decode cJ0_isLatin1_aae02 3 = .ok (.ifCond .eq 14, 3) := by decide +kernel
theorem dJ0_isLatin1_aae02_6 : decode cJ0_isLatin1_aae02 6 = .ok (.aload_n 0, 1) := by decide +kernel
theorem dJ0_isLatin1_aae02_7 : decode cJ0_isLatin1_aae02 7 = .ok (.getfield 15, 3) := by decide +kernel
theorem dJ0_isLatin1_aae02_10 : decode cJ0_isLatin1_aae02 10 = .ok (.ifCond .ne 7, 3) := by decide +kernel
theorem dJ0_isLatin1_aae02_13 : decode cJ0_isLatin1_aae02 13 = .ok (.iconst 1, 1) := by decide +kernel
theorem dJ0_isLatin1_aae02_14 : decode cJ0_isLatin1_aae02 14 = .ok (.goto 4, 3) := by decide +kernel
theorem dJ0_isLatin1_aae02_17 : decode cJ0_isLatin1_aae02 17 = .ok (.iconst 0, 1) := by decide +kernel
theorem dJ0_isLatin1_aae02_18 : decode cJ0_isLatin1_aae02 18 = .ok (.ireturn, 1) := by decide +kernel
theorem dJ0_checkIndex_df160_0 : decode cJ0_checkIndex_df160 0 = .ok (.iload_n 0, 1) := by decide +kernel
theorem dJ0_checkIndex_df160_1 : decode cJ0_checkIndex_df160 1 = .ok (.iload_n 1, 1) := by decide +kernel
theorem dJ0_checkIndex_df160_2 : decode cJ0_checkIndex_df160 2 = .ok (.getstatic 1053, 3) := by decide +kernel
theorem dJ0_checkIndex_df160_5 : decode cJ0_checkIndex_df160 5 = .ok (.invokestatic 1059, 3) := by decide +kernel
theorem dJ0_checkIndex_df160_8 : decode cJ0_checkIndex_df160 8 = .ok (.pop, 1) := by decide +kernel
theorem dJ0_checkIndex_df160_9 : decode cJ0_checkIndex_df160 9 = .ok (.return_, 1) := by decide +kernel
theorem dJ1_charAt_3b067_0 : decode cJ1_charAt_3b067 0 = .ok (.iload_n 1, 1) := by decide +kernel
theorem dJ1_charAt_3b067_1 : decode cJ1_charAt_3b067 1 = .ok (.aload_n 0, 1) := by decide +kernel
theorem dJ1_charAt_3b067_2 : decode cJ1_charAt_3b067 2 = .ok (.arraylength, 1) := by decide +kernel
theorem dJ1_charAt_3b067_3 : decode cJ1_charAt_3b067 3 = .ok (.invokestatic 9, 3) := by decide +kernel
theorem dJ1_charAt_3b067_6 : decode cJ1_charAt_3b067 6 = .ok (.aload_n 0, 1) := by decide +kernel
theorem dJ1_charAt_3b067_7 : decode cJ1_charAt_3b067 7 = .ok (.iload_n 1, 1) := by decide +kernel
theorem dJ1_charAt_3b067_8 : decode cJ1_charAt_3b067 8 = .ok (.baload, 1) := by decide +kernel
theorem dJ1_charAt_3b067_9 : decode cJ1_charAt_3b067 9 = .ok (.sipush 255, 3) := by decide +kernel
theorem dJ1_charAt_3b067_12 : decode cJ1_charAt_3b067 12 = .ok (.iand, 1) := by decide +kernel
theorem dJ1_charAt_3b067_13 : decode cJ1_charAt_3b067 13 = .ok (.i2c, 1) := by decide +kernel
theorem dJ1_charAt_3b067_14 : decode cJ1_charAt_3b067 14 = .ok (.ireturn, 1) := by decide +kernel
theorem dJ2_getChar_3b067_0 : decode cJ2_getChar_3b067 0 = .ok (.getstatic 44, 3) := by decide +kernel
theorem dJ2_getChar_3b067_3 : decode cJ2_getChar_3b067 3 = .ok (.ifCond .ne 25, 3) := by decide +kernel
theorem dJ2_getChar_3b067_6 : decode cJ2_getChar_3b067 6 = .ok (.iload_n 1, 1) := by decide +kernel
theorem dJ2_getChar_3b067_7 : decode cJ2_getChar_3b067 7 = .ok (.ifCond .lt 11, 3) := by decide +kernel
theorem dJ2_getChar_3b067_10 : decode cJ2_getChar_3b067 10 = .ok (.iload_n 1, 1) := by decide +kernel
theorem dJ2_getChar_3b067_11 : decode cJ2_getChar_3b067 11 = .ok (.aload_n 0, 1) := by decide +kernel
theorem dJ2_getChar_3b067_12 : decode cJ2_getChar_3b067 12 = .ok (.invokestatic 48, 3) := by decide +kernel
theorem dJ2_getChar_3b067_15 : decode cJ2_getChar_3b067 15 = .ok (.if_icmp .lt 13, 3) := by decide +kernel
theorem dJ2_getChar_3b067_18 : decode cJ2_getChar_3b067 18 = .ok (.new 52, 3) := by decide +kernel
theorem dJ2_getChar_3b067_21 : decode cJ2_getChar_3b067 21 = .ok (.dup, 1) := by decide +kernel
theorem dJ2_getChar_3b067_22 : decode cJ2_getChar_3b067 22 = .ok (.ldc 54, 2) := by decide +kernel
theorem dJ2_getChar_3b067_24 : decode cJ2_getChar_3b067 24 = .ok (.invokespecial 56, 3) := by decide +kernel
theorem dJ2_getChar_3b067_27 : decode cJ2_getChar_3b067 27 = .ok (.athrow, 1) := by decide +kernel
theorem dJ2_getChar_3b067_28 : decode cJ2_getChar_3b067 28 = .ok (.iload_n 1, 1) := by decide +kernel
theorem dJ2_getChar_3b067_29 : decode cJ2_getChar_3b067 29 = .ok (.iconst 1, 1) := by decide +kernel
theorem dJ2_getChar_3b067_30 : decode cJ2_getChar_3b067 30 = .ok (.ishl, 1) := by decide +kernel
theorem dJ2_getChar_3b067_31 : decode cJ2_getChar_3b067 31 = .ok (.istore_n 1, 1) := by decide +kernel
theorem dJ2_getChar_3b067_32 : decode cJ2_getChar_3b067 32 = .ok (.aload_n 0, 1) := by decide +kernel
theorem dJ2_getChar_3b067_33 : decode cJ2_getChar_3b067 33 = .ok (.iload_n 1, 1) := by decide +kernel
theorem dJ2_getChar_3b067_34 : decode cJ2_getChar_3b067 34 = .ok (.iinc 1 1, 3) := by decide +kernel
theorem dJ2_getChar_3b067_37 : decode cJ2_getChar_3b067 37 = .ok (.baload, 1) := by decide +kernel
theorem dJ2_getChar_3b067_38 : decode cJ2_getChar_3b067 38 = .ok (.sipush 255, 3) := by decide +kernel
theorem dJ2_getChar_3b067_41 : decode cJ2_getChar_3b067 41 = .ok (.iand, 1) := by decide +kernel
theorem dJ2_getChar_3b067_42 : decode cJ2_getChar_3b067 42 = .ok (.getstatic 59, 3) := by decide +kernel
theorem dJ2_getChar_3b067_45 : decode cJ2_getChar_3b067 45 = .ok (.ishl, 1) := by decide +kernel
theorem dJ2_getChar_3b067_46 : decode cJ2_getChar_3b067 46 = .ok (.aload_n 0, 1) := by decide +kernel
theorem dJ2_getChar_3b067_47 : decode cJ2_getChar_3b067 47 = .ok (.iload_n 1, 1) := by decide +kernel
theorem dJ2_getChar_3b067_48 : decode cJ2_getChar_3b067 48 = .ok (.baload, 1) := by decide +kernel
theorem dJ2_getChar_3b067_49 : decode cJ2_getChar_3b067 49 = .ok (.sipush 255, 3) := by decide +kernel
theorem dJ2_getChar_3b067_52 : decode cJ2_getChar_3b067 52 = .ok (.iand, 1) := by decide +kernel
theorem dJ2_getChar_3b067_53 : decode cJ2_getChar_3b067 53 = .ok (.getstatic 63, 3) := by decide +kernel
theorem dJ2_getChar_3b067_56 : decode cJ2_getChar_3b067 56 = .ok (.ishl, 1) := by decide +kernel
theorem dJ2_getChar_3b067_57 : decode cJ2_getChar_3b067 57 = .ok (.ior, 1) := by decide +kernel
theorem dJ2_getChar_3b067_58 : decode cJ2_getChar_3b067 58 = .ok (.i2c, 1) := by decide +kernel
theorem dJ2_getChar_3b067_59 : decode cJ2_getChar_3b067 59 = .ok (.ireturn, 1) := by decide +kernel
theorem dJ2_length_9d52b_0 : decode cJ2_length_9d52b 0 = .ok (.aload_n 0, 1) := by decide +kernel
theorem dJ2_length_9d52b_1 : decode cJ2_length_9d52b 1 = .ok (.arraylength, 1) := by decide +kernel
theorem dJ2_length_9d52b_2 : decode cJ2_length_9d52b 2 = .ok (.iconst 1, 1) := by decide +kernel
theorem dJ2_length_9d52b_3 : decode cJ2_length_9d52b 3 = .ok (.ishr, 1) := by decide +kernel
theorem dJ2_length_9d52b_4 : decode cJ2_length_9d52b 4 = .ok (.ireturn, 1) := by decide +kernel
theorem dJ2_charAt_3b067_0 : decode cJ2_charAt_3b067 0 = .ok (.iload_n 1, 1) := by decide +kernel
theorem dJ2_charAt_3b067_1 : decode cJ2_charAt_3b067 1 = .ok (.aload_n 0, 1) := by decide +kernel
theorem dJ2_charAt_3b067_2 : decode cJ2_charAt_3b067 2 = .ok (.invokestatic 67, 3) := by decide +kernel
theorem dJ2_charAt_3b067_5 : decode cJ2_charAt_3b067 5 = .ok (.aload_n 0, 1) := by decide +kernel
theorem dJ2_charAt_3b067_6 : decode cJ2_charAt_3b067 6 = .ok (.iload_n 1, 1) := by decide +kernel
theorem dJ2_charAt_3b067_7 : decode cJ2_charAt_3b067 7 = .ok (.invokestatic 71, 3) := by decide +kernel
theorem dJ2_charAt_3b067_10 : decode cJ2_charAt_3b067 10 = .ok (.ireturn, 1) := by decide +kernel
theorem dJ2_checkIndex_2214a_0 : decode cJ2_checkIndex_2214a 0 = .ok (.iload_n 0, 1) := by decide +kernel
theorem dJ2_checkIndex_2214a_1 : decode cJ2_checkIndex_2214a 1 = .ok (.aload_n 1, 1) := by decide +kernel
theorem dJ2_checkIndex_2214a_2 : decode cJ2_checkIndex_2214a 2 = .ok (.invokestatic 48, 3) := by decide +kernel
theorem dJ2_checkIndex_2214a_5 : decode cJ2_checkIndex_2214a 5 = .ok (.invokestatic 414, 3) := by decide +kernel
theorem dJ2_checkIndex_2214a_8 : decode cJ2_checkIndex_2214a 8 = .ok (.return_, 1) := by decide +kernel
theorem dJ7_fill_d0a16_0 : decode cJ7_fill_d0a16 0 = .ok (.iconst 0, 1) := by decide +kernel
theorem dJ7_fill_d0a16_1 : decode cJ7_fill_d0a16 1 = .ok (.istore_n 3, 1) := by decide +kernel
theorem dJ7_fill_d0a16_2 : decode cJ7_fill_d0a16 2 = .ok (.aload_n 0, 1) := by decide +kernel
theorem dJ7_fill_d0a16_3 : decode cJ7_fill_d0a16 3 = .ok (.arraylength, 1) := by decide +kernel
theorem dJ7_fill_d0a16_4 : decode cJ7_fill_d0a16 4 = .ok (.istore 4, 2) := by decide +kernel
theorem dJ7_fill_d0a16_6 : decode cJ7_fill_d0a16 6 = .ok (.iload_n 3, 1) := by decide +kernel
theorem dJ7_fill_d0a16_7 : decode cJ7_fill_d0a16 7 = .ok (.iload 4, 2) := by decide +kernel
theorem dJ7_fill_d0a16_9 : decode cJ7_fill_d0a16 9 = .ok (.if_icmp .ge 13, 3) := by decide +kernel
theorem dJ7_fill_d0a16_12 : decode cJ7_fill_d0a16 12 = .ok (.aload_n 0, 1) := by decide +kernel
theorem dJ7_fill_d0a16_13 : decode cJ7_fill_d0a16 13 = .ok (.iload_n 3, 1) := by decide +kernel
theorem dJ7_fill_d0a16_14 : decode cJ7_fill_d0a16 14 = .ok (.lload_n 1, 1) := by decide +kernel
theorem dJ7_fill_d0a16_15 : decode cJ7_fill_d0a16 15 = .ok (.lastore, 1) := by decide +kernel
theorem dJ7_fill_d0a16_16 : decode cJ7_fill_d0a16 16 = .ok (.iinc 3 1, 3) := by decide +kernel
theorem dJ7_fill_d0a16_19 : decode cJ7_fill_d0a16 19 = .ok (.goto (-13), 3) := by decide +kernel
theorem dJ7_fill_d0a16_22 : decode cJ7_fill_d0a16 22 = .ok (.return_, 1) := by decide +kernel
theorem dJ3_checkIndex_8e157_0 : decode cJ3_checkIndex_8e157 0 = .ok (.iload_n 0, 1) := by decide +kernel
theorem dJ3_checkIndex_8e157_1 : decode cJ3_checkIndex_8e157 1 = .ok (.ifCond .lt 8, 3) := by decide +kernel
theorem dJ3_checkIndex_8e157_4 : decode cJ3_checkIndex_8e157 4 = .ok (.iload_n 0, 1) := by decide +kernel
theorem dJ3_checkIndex_8e157_5 : decode cJ3_checkIndex_8e157 5 = .ok (.iload_n 1, 1) := by decide +kernel
theorem dJ3_checkIndex_8e157_6 : decode cJ3_checkIndex_8e157 6 = .ok (.if_icmp .lt 10, 3) := by decide +kernel
theorem dJ3_checkIndex_8e157_9 : decode cJ3_checkIndex_8e157 9 = .ok (.aload_n 2, 1) := by decide +kernel
theorem dJ3_checkIndex_8e157_10 : decode cJ3_checkIndex_8e157 10 = .ok (.iload_n 0, 1) := by decide +kernel
theorem dJ3_checkIndex_8e157_11 : decode cJ3_checkIndex_8e157 11 = .ok (.iload_n 1, 1) := by decide +kernel
theorem dJ3_checkIndex_8e157_12 : decode cJ3_checkIndex_8e157 12 = .ok (.invokestatic 95, 3) := by decide +kernel
theorem dJ3_checkIndex_8e157_15 : decode cJ3_checkIndex_8e157 15 = .ok (.athrow, 1) := by decide +kernel
theorem dJ3_checkIndex_8e157_16 : decode cJ3_checkIndex_8e157 16 = .ok (.iload_n 0, 1) := by decide +kernel
theorem dJ3_checkIndex_8e157_17 : decode cJ3_checkIndex_8e157 17 = .ok (.ireturn, 1) := by decide +kernel
theorem dL_person_0 : decode cL_person 0 = .ok (.aload_n 3, 1) := by decide +kernel
theorem dL_person_1 : decode cL_person 1 = .ok (.iconst 0, 1) := by decide +kernel
theorem dL_person_2 : decode cL_person 2 = .ok (.aload_n 0, 1) := by decide +kernel
theorem dL_person_3 : decode cL_person 3 = .ok (.iload_n 1, 1) := by decide +kernel
theorem dL_person_4 : decode cL_person 4 = .ok (.iload_n 2, 1) := by decide +kernel
theorem dL_person_5 : decode cL_person 5 = .ok (.invokevirtual 7, 3) := by decide +kernel
theorem dL_person_8 : decode cL_person 8 = .ok (.i2l, 1) := by decide +kernel
theorem dL_person_9 : decode cL_person 9 = .ok (.lastore, 1) := by decide +kernel
theorem dL_person_10 : decode cL_person 10 = .ok (.goto 11, 3) := by decide +kernel
theorem dL_person_13 : decode cL_person 13 = .ok (.astore 4, 2) := by decide +kernel
theorem dL_person_15 : decode cL_person 15 = .ok (.iconst 1, 1) := by decide +kernel
theorem dL_person_16 : decode cL_person 16 = .ok (.ireturn, 1) := by decide +kernel
theorem dL_person_17 : decode cL_person 17 = .ok (.astore 4, 2) := by decide +kernel
theorem dL_person_19 : decode cL_person 19 = .ok (.iconst 2, 1) := by decide +kernel
theorem dL_person_20 : decode cL_person 20 = .ok (.ireturn, 1) := by decide +kernel
theorem dL_person_21 : decode cL_person 21 = .ok (.iconst 0, 1) := by decide +kernel
theorem dL_person_22 : decode cL_person 22 = .ok (.ireturn, 1) := by decide +kernel
theorem dL_paper_0 : decode cL_paper 0 = .ok (.aload_n 3, 1) := by decide +kernel
theorem dL_paper_1 : decode cL_paper 1 = .ok (.iconst 0, 1) := by decide +kernel
theorem dL_paper_2 : decode cL_paper 2 = .ok (.aload_n 0, 1) := by decide +kernel
theorem dL_paper_3 : decode cL_paper 3 = .ok (.iload_n 1, 1) := by decide +kernel
theorem dL_paper_4 : decode cL_paper 4 = .ok (.iload_n 2, 1) := by decide +kernel
theorem dL_paper_5 : decode cL_paper 5 = .ok (.invokevirtual 17, 3) := by decide +kernel
theorem dL_paper_8 : decode cL_paper 8 = .ok (.i2l, 1) := by decide +kernel
theorem dL_paper_9 : decode cL_paper 9 = .ok (.lastore, 1) := by decide +kernel
theorem dL_paper_10 : decode cL_paper 10 = .ok (.goto 11, 3) := by decide +kernel
theorem dL_paper_13 : decode cL_paper 13 = .ok (.astore 4, 2) := by decide +kernel
theorem dL_paper_15 : decode cL_paper 15 = .ok (.iconst 1, 1) := by decide +kernel
theorem dL_paper_16 : decode cL_paper 16 = .ok (.ireturn, 1) := by decide +kernel
theorem dL_paper_17 : decode cL_paper 17 = .ok (.astore 4, 2) := by decide +kernel
theorem dL_paper_19 : decode cL_paper 19 = .ok (.iconst 2, 1) := by decide +kernel
theorem dL_paper_20 : decode cL_paper 20 = .ok (.ireturn, 1) := by decide +kernel
theorem dL_paper_21 : decode cL_paper 21 = .ok (.iconst 0, 1) := by decide +kernel
theorem dL_paper_22 : decode cL_paper 22 = .ok (.ireturn, 1) := by decide +kernel
theorem dL_law_0 : decode cL_law 0 = .ok (.new 8, 3) := by decide +kernel
theorem dL_law_3 : decode cL_law 3 = .ok (.dup, 1) := by decide +kernel
theorem dL_law_4 : decode cL_law 4 = .ok (.invokespecial 20, 3) := by decide +kernel
theorem dL_law_7 : decode cL_law 7 = .ok (.astore_n 1, 1) := by decide +kernel
theorem dL_law_8 : decode cL_law 8 = .ok (.new 21, 3) := by decide +kernel
theorem dL_law_11 : decode cL_law 11 = .ok (.dup, 1) := by decide +kernel
theorem dL_law_12 : decode cL_law 12 = .ok (.invokespecial 23, 3) := by decide +kernel
theorem dL_law_15 : decode cL_law 15 = .ok (.astore_n 2, 1) := by decide +kernel
theorem dL_law_16 : decode cL_law 16 = .ok (.iconst 1, 1) := by decide +kernel
theorem dL_law_17 : decode cL_law 17 = .ok (.newarray .long, 2) := by decide +kernel
theorem dL_law_19 : decode cL_law 19 = .ok (.astore_n 3, 1) := by decide +kernel
theorem dL_law_20 : decode cL_law 20 = .ok (.iconst 0, 1) := by decide +kernel
theorem dL_law_21 : decode cL_law 21 = .ok (.istore 4, 2) := by decide +kernel
theorem dL_law_23 : decode cL_law 23 = .ok (.iload 4, 2) := by decide +kernel
theorem dL_law_25 : decode cL_law 25 = .ok (.aload_n 0, 1) := by decide +kernel
theorem dL_law_26 : decode cL_law 26 = .ok (.arraylength, 1) := by decide +kernel
theorem dL_law_27 : decode cL_law 27 = .ok (.bipush 6, 2) := by decide +kernel
theorem dL_law_29 : decode cL_law 29 = .ok (.isub, 1) := by decide +kernel
theorem dL_law_30 : decode cL_law 30 = .ok (.if_icmp .gt 1666, 3) := by decide +kernel
theorem dL_law_33 : decode cL_law 33 = .ok (.aload_n 0, 1) := by decide +kernel
theorem dL_law_34 : decode cL_law 34 = .ok (.iload 4, 2) := by decide +kernel
theorem dL_law_36 : decode cL_law 36 = .ok (.iaload, 1) := by decide +kernel
theorem dL_law_37 : decode cL_law 37 = .ok (.bipush 63, 2) := by decide +kernel
theorem dL_law_39 : decode cL_law 39 = .ok (.iand, 1) := by decide +kernel
theorem dL_law_40 : decode cL_law 40 = .ok (.tableswitch 1650 0 39 #[176, 249, 274, 299, 339, 379, 416, 453, 490, 515, 540, 577, 626, 663, 688, 701, 738, 775, 812, 861, 898, 935, 960, 1021, 1058, 1083, 1108, 1145, 1182, 1207, 1256, 1305, 1354, 1379, 1416, 1453, 1490, 1527, 1576, 1625], 176) := by decide +kernel
theorem dL_law_216 : decode cL_law 216 = .ok (.aload_n 1, 1) := by decide +kernel
theorem dL_law_217 : decode cL_law 217 = .ok (.aload_n 0, 1) := by decide +kernel
theorem dL_law_218 : decode cL_law 218 = .ok (.iload 4, 2) := by decide +kernel
theorem dL_law_220 : decode cL_law 220 = .ok (.iconst 1, 1) := by decide +kernel
theorem dL_law_221 : decode cL_law 221 = .ok (.iadd, 1) := by decide +kernel
theorem dL_law_222 : decode cL_law 222 = .ok (.iaload, 1) := by decide +kernel
theorem dL_law_223 : decode cL_law 223 = .ok (.aload_n 0, 1) := by decide +kernel
theorem dL_law_224 : decode cL_law 224 = .ok (.iload 4, 2) := by decide +kernel
theorem dL_law_226 : decode cL_law 226 = .ok (.iconst 2, 1) := by decide +kernel
theorem dL_law_227 : decode cL_law 227 = .ok (.iadd, 1) := by decide +kernel
theorem dL_law_228 : decode cL_law 228 = .ok (.iaload, 1) := by decide +kernel
theorem dL_law_229 : decode cL_law 229 = .ok (.aload_n 0, 1) := by decide +kernel
theorem dL_law_230 : decode cL_law 230 = .ok (.iload 4, 2) := by decide +kernel
theorem dL_law_232 : decode cL_law 232 = .ok (.iconst 3, 1) := by decide +kernel
theorem dL_law_233 : decode cL_law 233 = .ok (.iadd, 1) := by decide +kernel
theorem dL_law_234 : decode cL_law 234 = .ok (.iaload, 1) := by decide +kernel
theorem dL_law_235 : decode cL_law 235 = .ok (.aload_n 0, 1) := by decide +kernel
theorem dL_law_236 : decode cL_law 236 = .ok (.iload 4, 2) := by decide +kernel
theorem dL_law_238 : decode cL_law 238 = .ok (.iconst 4, 1) := by decide +kernel
theorem dL_law_239 : decode cL_law 239 = .ok (.iadd, 1) := by decide +kernel
theorem dL_law_240 : decode cL_law 240 = .ok (.iaload, 1) := by decide +kernel
theorem dL_law_241 : decode cL_law 241 = .ok (.aload_n 0, 1) := by decide +kernel
theorem dL_law_242 : decode cL_law 242 = .ok (.iload 4, 2) := by decide +kernel
theorem dL_law_244 : decode cL_law 244 = .ok (.iconst 5, 1) := by decide +kernel
theorem dL_law_245 : decode cL_law 245 = .ok (.iadd, 1) := by decide +kernel
theorem dL_law_246 : decode cL_law 246 = .ok (.iaload, 1) := by decide +kernel
theorem dL_law_247 : decode cL_law 247 = .ok (.invokevirtual 24, 3) := by decide +kernel
theorem dL_law_250 : decode cL_law 250 = .ok (.aload_n 2, 1) := by decide +kernel
theorem dL_law_251 : decode cL_law 251 = .ok (.aload_n 0, 1) := by decide +kernel
theorem dL_law_252 : decode cL_law 252 = .ok (.iload 4, 2) := by decide +kernel
theorem dL_law_254 : decode cL_law 254 = .ok (.iconst 1, 1) := by decide +kernel
theorem dL_law_255 : decode cL_law 255 = .ok (.iadd, 1) := by decide +kernel
theorem dL_law_256 : decode cL_law 256 = .ok (.iaload, 1) := by decide +kernel
theorem dL_law_257 : decode cL_law 257 = .ok (.aload_n 0, 1) := by decide +kernel
theorem dL_law_258 : decode cL_law 258 = .ok (.iload 4, 2) := by decide +kernel
theorem dL_law_260 : decode cL_law 260 = .ok (.iconst 2, 1) := by decide +kernel
theorem dL_law_261 : decode cL_law 261 = .ok (.iadd, 1) := by decide +kernel
theorem dL_law_262 : decode cL_law 262 = .ok (.iaload, 1) := by decide +kernel
theorem dL_law_263 : decode cL_law 263 = .ok (.aload_n 0, 1) := by decide +kernel
theorem dL_law_264 : decode cL_law 264 = .ok (.iload 4, 2) := by decide +kernel
theorem dL_law_266 : decode cL_law 266 = .ok (.iconst 3, 1) := by decide +kernel
theorem dL_law_267 : decode cL_law 267 = .ok (.iadd, 1) := by decide +kernel
theorem dL_law_268 : decode cL_law 268 = .ok (.iaload, 1) := by decide +kernel
theorem dL_law_269 : decode cL_law 269 = .ok (.aload_n 0, 1) := by decide +kernel
theorem dL_law_270 : decode cL_law 270 = .ok (.iload 4, 2) := by decide +kernel
theorem dL_law_272 : decode cL_law 272 = .ok (.iconst 4, 1) := by decide +kernel
theorem dL_law_273 : decode cL_law 273 = .ok (.iadd, 1) := by decide +kernel
theorem dL_law_274 : decode cL_law 274 = .ok (.iaload, 1) := by decide +kernel
theorem dL_law_275 : decode cL_law 275 = .ok (.aload_n 0, 1) := by decide +kernel
theorem dL_law_276 : decode cL_law 276 = .ok (.iload 4, 2) := by decide +kernel
theorem dL_law_278 : decode cL_law 278 = .ok (.iconst 5, 1) := by decide +kernel
theorem dL_law_279 : decode cL_law 279 = .ok (.iadd, 1) := by decide +kernel
theorem dL_law_280 : decode cL_law 280 = .ok (.iaload, 1) := by decide +kernel
theorem dL_law_281 : decode cL_law 281 = .ok (.invokevirtual 28, 3) := by decide +kernel
theorem dL_law_284 : decode cL_law 284 = .ok (.if_icmp .eq 1406, 3) := by decide +kernel
theorem dL_law_287 : decode cL_law 287 = .ok (.iconst 0, 1) := by decide +kernel
theorem dL_law_288 : decode cL_law 288 = .ok (.ireturn, 1) := by decide +kernel
theorem dL_law_289 : decode cL_law 289 = .ok (.aload_n 1, 1) := by decide +kernel
theorem dL_law_290 : decode cL_law 290 = .ok (.aload_n 0, 1) := by decide +kernel
theorem dL_law_291 : decode cL_law 291 = .ok (.iload 4, 2) := by decide +kernel
theorem dL_law_293 : decode cL_law 293 = .ok (.iconst 1, 1) := by decide +kernel
theorem dL_law_294 : decode cL_law 294 = .ok (.iadd, 1) := by decide +kernel
theorem dL_law_295 : decode cL_law 295 = .ok (.iaload, 1) := by decide +kernel
theorem dL_law_296 : decode cL_law 296 = .ok (.invokevirtual 29, 3) := by decide +kernel
theorem dL_law_299 : decode cL_law 299 = .ok (.pop, 1) := by decide +kernel
theorem dL_law_300 : decode cL_law 300 = .ok (.aload_n 2, 1) := by decide +kernel
theorem dL_law_301 : decode cL_law 301 = .ok (.aload_n 0, 1) := by decide +kernel
theorem dL_law_302 : decode cL_law 302 = .ok (.iload 4, 2) := by decide +kernel
theorem dL_law_304 : decode cL_law 304 = .ok (.iconst 1, 1) := by decide +kernel
theorem dL_law_305 : decode cL_law 305 = .ok (.iadd, 1) := by decide +kernel
theorem dL_law_306 : decode cL_law 306 = .ok (.iaload, 1) := by decide +kernel
theorem dL_law_307 : decode cL_law 307 = .ok (.invokevirtual 33, 3) := by decide +kernel
theorem dL_law_310 : decode cL_law 310 = .ok (.pop, 1) := by decide +kernel
theorem dL_law_311 : decode cL_law 311 = .ok (.goto 1379, 3) := by decide +kernel
theorem dL_law_314 : decode cL_law 314 = .ok (.aload_n 1, 1) := by decide +kernel
theorem dL_law_315 : decode cL_law 315 = .ok (.aload_n 0, 1) := by decide +kernel
theorem dL_law_316 : decode cL_law 316 = .ok (.iload 4, 2) := by decide +kernel
theorem dL_law_318 : decode cL_law 318 = .ok (.iconst 1, 1) := by decide +kernel
theorem dL_law_319 : decode cL_law 319 = .ok (.iadd, 1) := by decide +kernel
theorem dL_law_320 : decode cL_law 320 = .ok (.iaload, 1) := by decide +kernel
theorem dL_law_321 : decode cL_law 321 = .ok (.invokevirtual 34, 3) := by decide +kernel
theorem dL_law_324 : decode cL_law 324 = .ok (.pop, 1) := by decide +kernel
theorem dL_law_325 : decode cL_law 325 = .ok (.aload_n 2, 1) := by decide +kernel
theorem dL_law_326 : decode cL_law 326 = .ok (.aload_n 0, 1) := by decide +kernel
theorem dL_law_327 : decode cL_law 327 = .ok (.iload 4, 2) := by decide +kernel
theorem dL_law_329 : decode cL_law 329 = .ok (.iconst 1, 1) := by decide +kernel
theorem dL_law_330 : decode cL_law 330 = .ok (.iadd, 1) := by decide +kernel
theorem dL_law_331 : decode cL_law 331 = .ok (.iaload, 1) := by decide +kernel
theorem dL_law_332 : decode cL_law 332 = .ok (.invokevirtual 37, 3) := by decide +kernel
theorem dL_law_335 : decode cL_law 335 = .ok (.pop, 1) := by decide +kernel
theorem dL_law_336 : decode cL_law 336 = .ok (.goto 1354, 3) := by decide +kernel
theorem dL_law_339 : decode cL_law 339 = .ok (.aload_n 1, 1) := by decide +kernel
theorem dL_law_340 : decode cL_law 340 = .ok (.aload_n 0, 1) := by decide +kernel
theorem dL_law_341 : decode cL_law 341 = .ok (.iload 4, 2) := by decide +kernel
theorem dL_law_343 : decode cL_law 343 = .ok (.iconst 1, 1) := by decide +kernel
theorem dL_law_344 : decode cL_law 344 = .ok (.iadd, 1) := by decide +kernel
theorem dL_law_345 : decode cL_law 345 = .ok (.iaload, 1) := by decide +kernel
theorem dL_law_346 : decode cL_law 346 = .ok (.aload_n 0, 1) := by decide +kernel
theorem dL_law_347 : decode cL_law 347 = .ok (.iload 4, 2) := by decide +kernel
theorem dL_law_349 : decode cL_law 349 = .ok (.iconst 2, 1) := by decide +kernel
theorem dL_law_350 : decode cL_law 350 = .ok (.iadd, 1) := by decide +kernel
theorem dL_law_351 : decode cL_law 351 = .ok (.iaload, 1) := by decide +kernel
theorem dL_law_352 : decode cL_law 352 = .ok (.aload_n 3, 1) := by decide +kernel
theorem dL_law_353 : decode cL_law 353 = .ok (.invokestatic 38, 3) := by decide +kernel
theorem dL_law_356 : decode cL_law 356 = .ok (.istore 5, 2) := by decide +kernel
theorem dL_law_358 : decode cL_law 358 = .ok (.aload_n 2, 1) := by decide +kernel
theorem dL_law_359 : decode cL_law 359 = .ok (.aload_n 0, 1) := by decide +kernel
theorem dL_law_360 : decode cL_law 360 = .ok (.iload 4, 2) := by decide +kernel
theorem dL_law_362 : decode cL_law 362 = .ok (.iconst 1, 1) := by decide +kernel
theorem dL_law_363 : decode cL_law 363 = .ok (.iadd, 1) := by decide +kernel
theorem dL_law_364 : decode cL_law 364 = .ok (.iaload, 1) := by decide +kernel
theorem dL_law_365 : decode cL_law 365 = .ok (.aload_n 0, 1) := by decide +kernel
theorem dL_law_366 : decode cL_law 366 = .ok (.iload 4, 2) := by decide +kernel
theorem dL_law_368 : decode cL_law 368 = .ok (.iconst 2, 1) := by decide +kernel
theorem dL_law_369 : decode cL_law 369 = .ok (.iadd, 1) := by decide +kernel
theorem dL_law_370 : decode cL_law 370 = .ok (.iaload, 1) := by decide +kernel
theorem dL_law_371 : decode cL_law 371 = .ok (.invokevirtual 43, 3) := by decide +kernel
theorem dL_law_374 : decode cL_law 374 = .ok (.istore 6, 2) := by decide +kernel
theorem dL_law_376 : decode cL_law 376 = .ok (.goto 1314, 3) := by decide +kernel
theorem dL_law_379 : decode cL_law 379 = .ok (.aload_n 1, 1) := by decide +kernel
theorem dL_law_380 : decode cL_law 380 = .ok (.aload_n 0, 1) := by decide +kernel
theorem dL_law_381 : decode cL_law 381 = .ok (.iload 4, 2) := by decide +kernel
theorem dL_law_383 : decode cL_law 383 = .ok (.iconst 1, 1) := by decide +kernel
theorem dL_law_384 : decode cL_law 384 = .ok (.iadd, 1) := by decide +kernel
theorem dL_law_385 : decode cL_law 385 = .ok (.iaload, 1) := by decide +kernel
theorem dL_law_386 : decode cL_law 386 = .ok (.aload_n 0, 1) := by decide +kernel
theorem dL_law_387 : decode cL_law 387 = .ok (.iload 4, 2) := by decide +kernel
theorem dL_law_389 : decode cL_law 389 = .ok (.iconst 2, 1) := by decide +kernel
theorem dL_law_390 : decode cL_law 390 = .ok (.iadd, 1) := by decide +kernel
theorem dL_law_391 : decode cL_law 391 = .ok (.iaload, 1) := by decide +kernel
theorem dL_law_392 : decode cL_law 392 = .ok (.aload_n 3, 1) := by decide +kernel
theorem dL_law_393 : decode cL_law 393 = .ok (.invokestatic 44, 3) := by decide +kernel
theorem dL_law_396 : decode cL_law 396 = .ok (.istore 5, 2) := by decide +kernel
theorem dL_law_398 : decode cL_law 398 = .ok (.aload_n 2, 1) := by decide +kernel
theorem dL_law_399 : decode cL_law 399 = .ok (.aload_n 0, 1) := by decide +kernel
theorem dL_law_400 : decode cL_law 400 = .ok (.iload 4, 2) := by decide +kernel
theorem dL_law_402 : decode cL_law 402 = .ok (.iconst 1, 1) := by decide +kernel
theorem dL_law_403 : decode cL_law 403 = .ok (.iadd, 1) := by decide +kernel
theorem dL_law_404 : decode cL_law 404 = .ok (.iaload, 1) := by decide +kernel
theorem dL_law_405 : decode cL_law 405 = .ok (.aload_n 0, 1) := by decide +kernel
theorem dL_law_406 : decode cL_law 406 = .ok (.iload 4, 2) := by decide +kernel
theorem dL_law_408 : decode cL_law 408 = .ok (.iconst 2, 1) := by decide +kernel
theorem dL_law_409 : decode cL_law 409 = .ok (.iadd, 1) := by decide +kernel
theorem dL_law_410 : decode cL_law 410 = .ok (.iaload, 1) := by decide +kernel
theorem dL_law_411 : decode cL_law 411 = .ok (.invokevirtual 46, 3) := by decide +kernel
theorem dL_law_414 : decode cL_law 414 = .ok (.istore 6, 2) := by decide +kernel
theorem dL_law_416 : decode cL_law 416 = .ok (.goto 1274, 3) := by decide +kernel
theorem dL_law_419 : decode cL_law 419 = .ok (.aload_n 1, 1) := by decide +kernel
theorem dL_law_420 : decode cL_law 420 = .ok (.aload_n 0, 1) := by decide +kernel
theorem dL_law_421 : decode cL_law 421 = .ok (.iload 4, 2) := by decide +kernel
theorem dL_law_423 : decode cL_law 423 = .ok (.iconst 1, 1) := by decide +kernel
theorem dL_law_424 : decode cL_law 424 = .ok (.iadd, 1) := by decide +kernel
theorem dL_law_425 : decode cL_law 425 = .ok (.iaload, 1) := by decide +kernel
theorem dL_law_426 : decode cL_law 426 = .ok (.aload_n 0, 1) := by decide +kernel
theorem dL_law_427 : decode cL_law 427 = .ok (.iload 4, 2) := by decide +kernel
theorem dL_law_429 : decode cL_law 429 = .ok (.iconst 2, 1) := by decide +kernel
theorem dL_law_430 : decode cL_law 430 = .ok (.iadd, 1) := by decide +kernel
theorem dL_law_431 : decode cL_law 431 = .ok (.iaload, 1) := by decide +kernel
theorem dL_law_432 : decode cL_law 432 = .ok (.invokevirtual 47, 3) := by decide +kernel
theorem dL_law_435 : decode cL_law 435 = .ok (.pop, 1) := by decide +kernel
theorem dL_law_436 : decode cL_law 436 = .ok (.aload_n 2, 1) := by decide +kernel
theorem dL_law_437 : decode cL_law 437 = .ok (.aload_n 0, 1) := by decide +kernel
theorem dL_law_438 : decode cL_law 438 = .ok (.iload 4, 2) := by decide +kernel
theorem dL_law_440 : decode cL_law 440 = .ok (.iconst 1, 1) := by decide +kernel
theorem dL_law_441 : decode cL_law 441 = .ok (.iadd, 1) := by decide +kernel
theorem dL_law_442 : decode cL_law 442 = .ok (.iaload, 1) := by decide +kernel
theorem dL_law_443 : decode cL_law 443 = .ok (.aload_n 0, 1) := by decide +kernel
theorem dL_law_444 : decode cL_law 444 = .ok (.iload 4, 2) := by decide +kernel
theorem dL_law_446 : decode cL_law 446 = .ok (.iconst 2, 1) := by decide +kernel
theorem dL_law_447 : decode cL_law 447 = .ok (.iadd, 1) := by decide +kernel
theorem dL_law_448 : decode cL_law 448 = .ok (.iaload, 1) := by decide +kernel
theorem dL_law_449 : decode cL_law 449 = .ok (.invokevirtual 50, 3) := by decide +kernel
theorem dL_law_452 : decode cL_law 452 = .ok (.pop, 1) := by decide +kernel
theorem dL_law_453 : decode cL_law 453 = .ok (.goto 1237, 3) := by decide +kernel
theorem dL_law_456 : decode cL_law 456 = .ok (.aload_n 1, 1) := by decide +kernel
theorem dL_law_457 : decode cL_law 457 = .ok (.aload_n 0, 1) := by decide +kernel
theorem dL_law_458 : decode cL_law 458 = .ok (.iload 4, 2) := by decide +kernel
theorem dL_law_460 : decode cL_law 460 = .ok (.iconst 1, 1) := by decide +kernel
theorem dL_law_461 : decode cL_law 461 = .ok (.iadd, 1) := by decide +kernel
theorem dL_law_462 : decode cL_law 462 = .ok (.iaload, 1) := by decide +kernel
theorem dL_law_463 : decode cL_law 463 = .ok (.aload_n 0, 1) := by decide +kernel
theorem dL_law_464 : decode cL_law 464 = .ok (.iload 4, 2) := by decide +kernel
theorem dL_law_466 : decode cL_law 466 = .ok (.iconst 2, 1) := by decide +kernel
theorem dL_law_467 : decode cL_law 467 = .ok (.iadd, 1) := by decide +kernel
theorem dL_law_468 : decode cL_law 468 = .ok (.iaload, 1) := by decide +kernel
theorem dL_law_469 : decode cL_law 469 = .ok (.invokevirtual 51, 3) := by decide +kernel
theorem dL_law_472 : decode cL_law 472 = .ok (.pop, 1) := by decide +kernel
theorem dL_law_473 : decode cL_law 473 = .ok (.aload_n 2, 1) := by decide +kernel
theorem dL_law_474 : decode cL_law 474 = .ok (.aload_n 0, 1) := by decide +kernel
theorem dL_law_475 : decode cL_law 475 = .ok (.iload 4, 2) := by decide +kernel
theorem dL_law_477 : decode cL_law 477 = .ok (.iconst 1, 1) := by decide +kernel
theorem dL_law_478 : decode cL_law 478 = .ok (.iadd, 1) := by decide +kernel
theorem dL_law_479 : decode cL_law 479 = .ok (.iaload, 1) := by decide +kernel
theorem dL_law_480 : decode cL_law 480 = .ok (.aload_n 0, 1) := by decide +kernel
theorem dL_law_481 : decode cL_law 481 = .ok (.iload 4, 2) := by decide +kernel
theorem dL_law_483 : decode cL_law 483 = .ok (.iconst 2, 1) := by decide +kernel
theorem dL_law_484 : decode cL_law 484 = .ok (.iadd, 1) := by decide +kernel
theorem dL_law_485 : decode cL_law 485 = .ok (.iaload, 1) := by decide +kernel
theorem dL_law_486 : decode cL_law 486 = .ok (.invokevirtual 54, 3) := by decide +kernel
theorem dL_law_489 : decode cL_law 489 = .ok (.pop, 1) := by decide +kernel
theorem dL_law_490 : decode cL_law 490 = .ok (.goto 1200, 3) := by decide +kernel
theorem dL_law_493 : decode cL_law 493 = .ok (.aload_n 1, 1) := by decide +kernel
theorem dL_law_494 : decode cL_law 494 = .ok (.aload_n 0, 1) := by decide +kernel
theorem dL_law_495 : decode cL_law 495 = .ok (.iload 4, 2) := by decide +kernel
theorem dL_law_497 : decode cL_law 497 = .ok (.iconst 1, 1) := by decide +kernel
theorem dL_law_498 : decode cL_law 498 = .ok (.iadd, 1) := by decide +kernel
theorem dL_law_499 : decode cL_law 499 = .ok (.iaload, 1) := by decide +kernel
theorem dL_law_500 : decode cL_law 500 = .ok (.aload_n 0, 1) := by decide +kernel
theorem dL_law_501 : decode cL_law 501 = .ok (.iload 4, 2) := by decide +kernel
theorem dL_law_503 : decode cL_law 503 = .ok (.iconst 2, 1) := by decide +kernel
theorem dL_law_504 : decode cL_law 504 = .ok (.iadd, 1) := by decide +kernel
theorem dL_law_505 : decode cL_law 505 = .ok (.iaload, 1) := by decide +kernel
theorem dL_law_506 : decode cL_law 506 = .ok (.invokevirtual 55, 3) := by decide +kernel
theorem dL_law_509 : decode cL_law 509 = .ok (.pop, 1) := by decide +kernel
theorem dL_law_510 : decode cL_law 510 = .ok (.aload_n 2, 1) := by decide +kernel
theorem dL_law_511 : decode cL_law 511 = .ok (.aload_n 0, 1) := by decide +kernel
theorem dL_law_512 : decode cL_law 512 = .ok (.iload 4, 2) := by decide +kernel
theorem dL_law_514 : decode cL_law 514 = .ok (.iconst 1, 1) := by decide +kernel
theorem dL_law_515 : decode cL_law 515 = .ok (.iadd, 1) := by decide +kernel
theorem dL_law_516 : decode cL_law 516 = .ok (.iaload, 1) := by decide +kernel
theorem dL_law_517 : decode cL_law 517 = .ok (.aload_n 0, 1) := by decide +kernel
theorem dL_law_518 : decode cL_law 518 = .ok (.iload 4, 2) := by decide +kernel
theorem dL_law_520 : decode cL_law 520 = .ok (.iconst 2, 1) := by decide +kernel
theorem dL_law_521 : decode cL_law 521 = .ok (.iadd, 1) := by decide +kernel
theorem dL_law_522 : decode cL_law 522 = .ok (.iaload, 1) := by decide +kernel
theorem dL_law_523 : decode cL_law 523 = .ok (.invokevirtual 59, 3) := by decide +kernel
theorem dL_law_526 : decode cL_law 526 = .ok (.pop, 1) := by decide +kernel
theorem dL_law_527 : decode cL_law 527 = .ok (.goto 1163, 3) := by decide +kernel
theorem dL_law_530 : decode cL_law 530 = .ok (.aload_n 1, 1) := by decide +kernel
theorem dL_law_531 : decode cL_law 531 = .ok (.aload_n 0, 1) := by decide +kernel
theorem dL_law_532 : decode cL_law 532 = .ok (.iload 4, 2) := by decide +kernel
theorem dL_law_534 : decode cL_law 534 = .ok (.iconst 1, 1) := by decide +kernel
theorem dL_law_535 : decode cL_law 535 = .ok (.iadd, 1) := by decide +kernel
theorem dL_law_536 : decode cL_law 536 = .ok (.iaload, 1) := by decide +kernel
theorem dL_law_537 : decode cL_law 537 = .ok (.invokevirtual 60, 3) := by decide +kernel
theorem dL_law_540 : decode cL_law 540 = .ok (.pop, 1) := by decide +kernel
theorem dL_law_541 : decode cL_law 541 = .ok (.aload_n 2, 1) := by decide +kernel
theorem dL_law_542 : decode cL_law 542 = .ok (.aload_n 0, 1) := by decide +kernel
theorem dL_law_543 : decode cL_law 543 = .ok (.iload 4, 2) := by decide +kernel
theorem dL_law_545 : decode cL_law 545 = .ok (.iconst 1, 1) := by decide +kernel
theorem dL_law_546 : decode cL_law 546 = .ok (.iadd, 1) := by decide +kernel
theorem dL_law_547 : decode cL_law 547 = .ok (.iaload, 1) := by decide +kernel
theorem dL_law_548 : decode cL_law 548 = .ok (.invokevirtual 64, 3) := by decide +kernel
theorem dL_law_551 : decode cL_law 551 = .ok (.pop, 1) := by decide +kernel
theorem dL_law_552 : decode cL_law 552 = .ok (.goto 1138, 3) := by decide +kernel
theorem dL_law_555 : decode cL_law 555 = .ok (.aload_n 1, 1) := by decide +kernel
theorem dL_law_556 : decode cL_law 556 = .ok (.aload_n 0, 1) := by decide +kernel
theorem dL_law_557 : decode cL_law 557 = .ok (.iload 4, 2) := by decide +kernel
theorem dL_law_559 : decode cL_law 559 = .ok (.iconst 1, 1) := by decide +kernel
theorem dL_law_560 : decode cL_law 560 = .ok (.iadd, 1) := by decide +kernel
theorem dL_law_561 : decode cL_law 561 = .ok (.iaload, 1) := by decide +kernel
theorem dL_law_562 : decode cL_law 562 = .ok (.invokevirtual 65, 3) := by decide +kernel
theorem dL_law_565 : decode cL_law 565 = .ok (.pop, 1) := by decide +kernel
theorem dL_law_566 : decode cL_law 566 = .ok (.aload_n 2, 1) := by decide +kernel
theorem dL_law_567 : decode cL_law 567 = .ok (.aload_n 0, 1) := by decide +kernel
theorem dL_law_568 : decode cL_law 568 = .ok (.iload 4, 2) := by decide +kernel
theorem dL_law_570 : decode cL_law 570 = .ok (.iconst 1, 1) := by decide +kernel
theorem dL_law_571 : decode cL_law 571 = .ok (.iadd, 1) := by decide +kernel
theorem dL_law_572 : decode cL_law 572 = .ok (.iaload, 1) := by decide +kernel
theorem dL_law_573 : decode cL_law 573 = .ok (.invokevirtual 68, 3) := by decide +kernel
theorem dL_law_576 : decode cL_law 576 = .ok (.pop, 1) := by decide +kernel
theorem dL_law_577 : decode cL_law 577 = .ok (.goto 1113, 3) := by decide +kernel
theorem dL_law_580 : decode cL_law 580 = .ok (.aload_n 1, 1) := by decide +kernel
theorem dL_law_581 : decode cL_law 581 = .ok (.aload_n 0, 1) := by decide +kernel
theorem dL_law_582 : decode cL_law 582 = .ok (.iload 4, 2) := by decide +kernel
theorem dL_law_584 : decode cL_law 584 = .ok (.iconst 1, 1) := by decide +kernel
theorem dL_law_585 : decode cL_law 585 = .ok (.iadd, 1) := by decide +kernel
theorem dL_law_586 : decode cL_law 586 = .ok (.iaload, 1) := by decide +kernel
theorem dL_law_587 : decode cL_law 587 = .ok (.aload_n 0, 1) := by decide +kernel
theorem dL_law_588 : decode cL_law 588 = .ok (.iload 4, 2) := by decide +kernel
theorem dL_law_590 : decode cL_law 590 = .ok (.iconst 2, 1) := by decide +kernel
theorem dL_law_591 : decode cL_law 591 = .ok (.iadd, 1) := by decide +kernel
theorem dL_law_592 : decode cL_law 592 = .ok (.iaload, 1) := by decide +kernel
theorem dL_law_593 : decode cL_law 593 = .ok (.invokevirtual 69, 3) := by decide +kernel
theorem dL_law_596 : decode cL_law 596 = .ok (.pop, 1) := by decide +kernel
theorem dL_law_597 : decode cL_law 597 = .ok (.aload_n 2, 1) := by decide +kernel
theorem dL_law_598 : decode cL_law 598 = .ok (.aload_n 0, 1) := by decide +kernel
theorem dL_law_599 : decode cL_law 599 = .ok (.iload 4, 2) := by decide +kernel
theorem dL_law_601 : decode cL_law 601 = .ok (.iconst 1, 1) := by decide +kernel
theorem dL_law_602 : decode cL_law 602 = .ok (.iadd, 1) := by decide +kernel
theorem dL_law_603 : decode cL_law 603 = .ok (.iaload, 1) := by decide +kernel
theorem dL_law_604 : decode cL_law 604 = .ok (.aload_n 0, 1) := by decide +kernel
theorem dL_law_605 : decode cL_law 605 = .ok (.iload 4, 2) := by decide +kernel
theorem dL_law_607 : decode cL_law 607 = .ok (.iconst 2, 1) := by decide +kernel
theorem dL_law_608 : decode cL_law 608 = .ok (.iadd, 1) := by decide +kernel
theorem dL_law_609 : decode cL_law 609 = .ok (.iaload, 1) := by decide +kernel
theorem dL_law_610 : decode cL_law 610 = .ok (.invokevirtual 72, 3) := by decide +kernel
theorem dL_law_613 : decode cL_law 613 = .ok (.pop, 1) := by decide +kernel
theorem dL_law_614 : decode cL_law 614 = .ok (.goto 1076, 3) := by decide +kernel
theorem dL_law_617 : decode cL_law 617 = .ok (.aload_n 1, 1) := by decide +kernel
theorem dL_law_618 : decode cL_law 618 = .ok (.aload_n 0, 1) := by decide +kernel
theorem dL_law_619 : decode cL_law 619 = .ok (.iload 4, 2) := by decide +kernel
theorem dL_law_621 : decode cL_law 621 = .ok (.iconst 1, 1) := by decide +kernel
theorem dL_law_622 : decode cL_law 622 = .ok (.iadd, 1) := by decide +kernel
theorem dL_law_623 : decode cL_law 623 = .ok (.iaload, 1) := by decide +kernel
theorem dL_law_624 : decode cL_law 624 = .ok (.aload_n 0, 1) := by decide +kernel
theorem dL_law_625 : decode cL_law 625 = .ok (.iload 4, 2) := by decide +kernel
theorem dL_law_627 : decode cL_law 627 = .ok (.iconst 2, 1) := by decide +kernel
theorem dL_law_628 : decode cL_law 628 = .ok (.iadd, 1) := by decide +kernel
theorem dL_law_629 : decode cL_law 629 = .ok (.iaload, 1) := by decide +kernel
theorem dL_law_630 : decode cL_law 630 = .ok (.aload_n 0, 1) := by decide +kernel
theorem dL_law_631 : decode cL_law 631 = .ok (.iload 4, 2) := by decide +kernel
theorem dL_law_633 : decode cL_law 633 = .ok (.iconst 3, 1) := by decide +kernel
theorem dL_law_634 : decode cL_law 634 = .ok (.iadd, 1) := by decide +kernel
theorem dL_law_635 : decode cL_law 635 = .ok (.iaload, 1) := by decide +kernel
theorem dL_law_636 : decode cL_law 636 = .ok (.invokevirtual 73, 3) := by decide +kernel
theorem dL_law_639 : decode cL_law 639 = .ok (.pop, 1) := by decide +kernel
theorem dL_law_640 : decode cL_law 640 = .ok (.aload_n 2, 1) := by decide +kernel
theorem dL_law_641 : decode cL_law 641 = .ok (.aload_n 0, 1) := by decide +kernel
theorem dL_law_642 : decode cL_law 642 = .ok (.iload 4, 2) := by decide +kernel
theorem dL_law_644 : decode cL_law 644 = .ok (.iconst 1, 1) := by decide +kernel
theorem dL_law_645 : decode cL_law 645 = .ok (.iadd, 1) := by decide +kernel
theorem dL_law_646 : decode cL_law 646 = .ok (.iaload, 1) := by decide +kernel
theorem dL_law_647 : decode cL_law 647 = .ok (.aload_n 0, 1) := by decide +kernel
theorem dL_law_648 : decode cL_law 648 = .ok (.iload 4, 2) := by decide +kernel
theorem dL_law_650 : decode cL_law 650 = .ok (.iconst 2, 1) := by decide +kernel
theorem dL_law_651 : decode cL_law 651 = .ok (.iadd, 1) := by decide +kernel
theorem dL_law_652 : decode cL_law 652 = .ok (.iaload, 1) := by decide +kernel
theorem dL_law_653 : decode cL_law 653 = .ok (.aload_n 0, 1) := by decide +kernel
theorem dL_law_654 : decode cL_law 654 = .ok (.iload 4, 2) := by decide +kernel
theorem dL_law_656 : decode cL_law 656 = .ok (.iconst 3, 1) := by decide +kernel
theorem dL_law_657 : decode cL_law 657 = .ok (.iadd, 1) := by decide +kernel
theorem dL_law_658 : decode cL_law 658 = .ok (.iaload, 1) := by decide +kernel
theorem dL_law_659 : decode cL_law 659 = .ok (.invokevirtual 77, 3) := by decide +kernel
theorem dL_law_662 : decode cL_law 662 = .ok (.pop, 1) := by decide +kernel
theorem dL_law_663 : decode cL_law 663 = .ok (.goto 1027, 3) := by decide +kernel
theorem dL_law_666 : decode cL_law 666 = .ok (.aload_n 1, 1) := by decide +kernel
theorem dL_law_667 : decode cL_law 667 = .ok (.aload_n 0, 1) := by decide +kernel
theorem dL_law_668 : decode cL_law 668 = .ok (.iload 4, 2) := by decide +kernel
theorem dL_law_670 : decode cL_law 670 = .ok (.iconst 1, 1) := by decide +kernel
theorem dL_law_671 : decode cL_law 671 = .ok (.iadd, 1) := by decide +kernel
theorem dL_law_672 : decode cL_law 672 = .ok (.iaload, 1) := by decide +kernel
theorem dL_law_673 : decode cL_law 673 = .ok (.aload_n 0, 1) := by decide +kernel
theorem dL_law_674 : decode cL_law 674 = .ok (.iload 4, 2) := by decide +kernel
theorem dL_law_676 : decode cL_law 676 = .ok (.iconst 2, 1) := by decide +kernel
theorem dL_law_677 : decode cL_law 677 = .ok (.iadd, 1) := by decide +kernel
theorem dL_law_678 : decode cL_law 678 = .ok (.iaload, 1) := by decide +kernel
theorem dL_law_679 : decode cL_law 679 = .ok (.invokevirtual 78, 3) := by decide +kernel
theorem dL_law_682 : decode cL_law 682 = .ok (.pop, 1) := by decide +kernel
theorem dL_law_683 : decode cL_law 683 = .ok (.aload_n 2, 1) := by decide +kernel
theorem dL_law_684 : decode cL_law 684 = .ok (.aload_n 0, 1) := by decide +kernel
theorem dL_law_685 : decode cL_law 685 = .ok (.iload 4, 2) := by decide +kernel
theorem dL_law_687 : decode cL_law 687 = .ok (.iconst 1, 1) := by decide +kernel
theorem dL_law_688 : decode cL_law 688 = .ok (.iadd, 1) := by decide +kernel
theorem dL_law_689 : decode cL_law 689 = .ok (.iaload, 1) := by decide +kernel
theorem dL_law_690 : decode cL_law 690 = .ok (.aload_n 0, 1) := by decide +kernel
theorem dL_law_691 : decode cL_law 691 = .ok (.iload 4, 2) := by decide +kernel
theorem dL_law_693 : decode cL_law 693 = .ok (.iconst 2, 1) := by decide +kernel
theorem dL_law_694 : decode cL_law 694 = .ok (.iadd, 1) := by decide +kernel
theorem dL_law_695 : decode cL_law 695 = .ok (.iaload, 1) := by decide +kernel
theorem dL_law_696 : decode cL_law 696 = .ok (.invokevirtual 81, 3) := by decide +kernel
theorem dL_law_699 : decode cL_law 699 = .ok (.pop, 1) := by decide +kernel
theorem dL_law_700 : decode cL_law 700 = .ok (.goto 990, 3) := by decide +kernel
theorem dL_law_703 : decode cL_law 703 = .ok (.aload_n 1, 1) := by decide +kernel
theorem dL_law_704 : decode cL_law 704 = .ok (.aload_n 0, 1) := by decide +kernel
theorem dL_law_705 : decode cL_law 705 = .ok (.iload 4, 2) := by decide +kernel
theorem dL_law_707 : decode cL_law 707 = .ok (.iconst 1, 1) := by decide +kernel
theorem dL_law_708 : decode cL_law 708 = .ok (.iadd, 1) := by decide +kernel
theorem dL_law_709 : decode cL_law 709 = .ok (.iaload, 1) := by decide +kernel
theorem dL_law_710 : decode cL_law 710 = .ok (.invokevirtual 82, 3) := by decide +kernel
theorem dL_law_713 : decode cL_law 713 = .ok (.pop, 1) := by decide +kernel
theorem dL_law_714 : decode cL_law 714 = .ok (.aload_n 2, 1) := by decide +kernel
theorem dL_law_715 : decode cL_law 715 = .ok (.aload_n 0, 1) := by decide +kernel
theorem dL_law_716 : decode cL_law 716 = .ok (.iload 4, 2) := by decide +kernel
theorem dL_law_718 : decode cL_law 718 = .ok (.iconst 1, 1) := by decide +kernel
theorem dL_law_719 : decode cL_law 719 = .ok (.iadd, 1) := by decide +kernel
theorem dL_law_720 : decode cL_law 720 = .ok (.iaload, 1) := by decide +kernel
theorem dL_law_721 : decode cL_law 721 = .ok (.invokevirtual 85, 3) := by decide +kernel
theorem dL_law_724 : decode cL_law 724 = .ok (.pop, 1) := by decide +kernel
theorem dL_law_725 : decode cL_law 725 = .ok (.goto 965, 3) := by decide +kernel
theorem dL_law_728 : decode cL_law 728 = .ok (.aload_n 1, 1) := by decide +kernel
theorem dL_law_729 : decode cL_law 729 = .ok (.invokevirtual 86, 3) := by decide +kernel
theorem dL_law_732 : decode cL_law 732 = .ok (.pop, 1) := by decide +kernel
theorem dL_law_733 : decode cL_law 733 = .ok (.aload_n 2, 1) := by decide +kernel
theorem dL_law_734 : decode cL_law 734 = .ok (.invokevirtual 90, 3) := by decide +kernel
theorem dL_law_737 : decode cL_law 737 = .ok (.pop, 1) := by decide +kernel
theorem dL_law_738 : decode cL_law 738 = .ok (.goto 952, 3) := by decide +kernel
theorem dL_law_741 : decode cL_law 741 = .ok (.aload_n 1, 1) := by decide +kernel
theorem dL_law_742 : decode cL_law 742 = .ok (.aload_n 0, 1) := by decide +kernel
theorem dL_law_743 : decode cL_law 743 = .ok (.iload 4, 2) := by decide +kernel
theorem dL_law_745 : decode cL_law 745 = .ok (.iconst 1, 1) := by decide +kernel
theorem dL_law_746 : decode cL_law 746 = .ok (.iadd, 1) := by decide +kernel
theorem dL_law_747 : decode cL_law 747 = .ok (.iaload, 1) := by decide +kernel
theorem dL_law_748 : decode cL_law 748 = .ok (.aload_n 0, 1) := by decide +kernel
theorem dL_law_749 : decode cL_law 749 = .ok (.iload 4, 2) := by decide +kernel
theorem dL_law_751 : decode cL_law 751 = .ok (.iconst 2, 1) := by decide +kernel
theorem dL_law_752 : decode cL_law 752 = .ok (.iadd, 1) := by decide +kernel
theorem dL_law_753 : decode cL_law 753 = .ok (.iaload, 1) := by decide +kernel
theorem dL_law_754 : decode cL_law 754 = .ok (.invokevirtual 91, 3) := by decide +kernel
theorem dL_law_757 : decode cL_law 757 = .ok (.pop, 1) := by decide +kernel
theorem dL_law_758 : decode cL_law 758 = .ok (.aload_n 2, 1) := by decide +kernel
theorem dL_law_759 : decode cL_law 759 = .ok (.aload_n 0, 1) := by decide +kernel
theorem dL_law_760 : decode cL_law 760 = .ok (.iload 4, 2) := by decide +kernel
theorem dL_law_762 : decode cL_law 762 = .ok (.iconst 1, 1) := by decide +kernel
theorem dL_law_763 : decode cL_law 763 = .ok (.iadd, 1) := by decide +kernel
theorem dL_law_764 : decode cL_law 764 = .ok (.iaload, 1) := by decide +kernel
theorem dL_law_765 : decode cL_law 765 = .ok (.aload_n 0, 1) := by decide +kernel
theorem dL_law_766 : decode cL_law 766 = .ok (.iload 4, 2) := by decide +kernel
theorem dL_law_768 : decode cL_law 768 = .ok (.iconst 2, 1) := by decide +kernel
theorem dL_law_769 : decode cL_law 769 = .ok (.iadd, 1) := by decide +kernel
theorem dL_law_770 : decode cL_law 770 = .ok (.iaload, 1) := by decide +kernel
theorem dL_law_771 : decode cL_law 771 = .ok (.invokevirtual 94, 3) := by decide +kernel
theorem dL_law_774 : decode cL_law 774 = .ok (.pop, 1) := by decide +kernel
theorem dL_law_775 : decode cL_law 775 = .ok (.goto 915, 3) := by decide +kernel
theorem dL_law_778 : decode cL_law 778 = .ok (.aload_n 1, 1) := by decide +kernel
theorem dL_law_779 : decode cL_law 779 = .ok (.aload_n 0, 1) := by decide +kernel
theorem dL_law_780 : decode cL_law 780 = .ok (.iload 4, 2) := by decide +kernel
theorem dL_law_782 : decode cL_law 782 = .ok (.iconst 1, 1) := by decide +kernel
theorem dL_law_783 : decode cL_law 783 = .ok (.iadd, 1) := by decide +kernel
theorem dL_law_784 : decode cL_law 784 = .ok (.iaload, 1) := by decide +kernel
theorem dL_law_785 : decode cL_law 785 = .ok (.aload_n 0, 1) := by decide +kernel
theorem dL_law_786 : decode cL_law 786 = .ok (.iload 4, 2) := by decide +kernel
theorem dL_law_788 : decode cL_law 788 = .ok (.iconst 2, 1) := by decide +kernel
theorem dL_law_789 : decode cL_law 789 = .ok (.iadd, 1) := by decide +kernel
theorem dL_law_790 : decode cL_law 790 = .ok (.iaload, 1) := by decide +kernel
theorem dL_law_791 : decode cL_law 791 = .ok (.invokevirtual 95, 3) := by decide +kernel
theorem dL_law_794 : decode cL_law 794 = .ok (.pop, 1) := by decide +kernel
theorem dL_law_795 : decode cL_law 795 = .ok (.aload_n 2, 1) := by decide +kernel
theorem dL_law_796 : decode cL_law 796 = .ok (.aload_n 0, 1) := by decide +kernel
theorem dL_law_797 : decode cL_law 797 = .ok (.iload 4, 2) := by decide +kernel
theorem dL_law_799 : decode cL_law 799 = .ok (.iconst 1, 1) := by decide +kernel
theorem dL_law_800 : decode cL_law 800 = .ok (.iadd, 1) := by decide +kernel
theorem dL_law_801 : decode cL_law 801 = .ok (.iaload, 1) := by decide +kernel
theorem dL_law_802 : decode cL_law 802 = .ok (.aload_n 0, 1) := by decide +kernel
theorem dL_law_803 : decode cL_law 803 = .ok (.iload 4, 2) := by decide +kernel
theorem dL_law_805 : decode cL_law 805 = .ok (.iconst 2, 1) := by decide +kernel
theorem dL_law_806 : decode cL_law 806 = .ok (.iadd, 1) := by decide +kernel
theorem dL_law_807 : decode cL_law 807 = .ok (.iaload, 1) := by decide +kernel
theorem dL_law_808 : decode cL_law 808 = .ok (.invokevirtual 98, 3) := by decide +kernel
theorem dL_law_811 : decode cL_law 811 = .ok (.pop, 1) := by decide +kernel
theorem dL_law_812 : decode cL_law 812 = .ok (.goto 878, 3) := by decide +kernel
theorem dL_law_815 : decode cL_law 815 = .ok (.aload_n 1, 1) := by decide +kernel
theorem dL_law_816 : decode cL_law 816 = .ok (.aload_n 0, 1) := by decide +kernel
theorem dL_law_817 : decode cL_law 817 = .ok (.iload 4, 2) := by decide +kernel
theorem dL_law_819 : decode cL_law 819 = .ok (.iconst 1, 1) := by decide +kernel
theorem dL_law_820 : decode cL_law 820 = .ok (.iadd, 1) := by decide +kernel
theorem dL_law_821 : decode cL_law 821 = .ok (.iaload, 1) := by decide +kernel
theorem dL_law_822 : decode cL_law 822 = .ok (.aload_n 0, 1) := by decide +kernel
theorem dL_law_823 : decode cL_law 823 = .ok (.iload 4, 2) := by decide +kernel
theorem dL_law_825 : decode cL_law 825 = .ok (.iconst 2, 1) := by decide +kernel
theorem dL_law_826 : decode cL_law 826 = .ok (.iadd, 1) := by decide +kernel
theorem dL_law_827 : decode cL_law 827 = .ok (.iaload, 1) := by decide +kernel
theorem dL_law_828 : decode cL_law 828 = .ok (.invokevirtual 99, 3) := by decide +kernel
theorem dL_law_831 : decode cL_law 831 = .ok (.pop, 1) := by decide +kernel
theorem dL_law_832 : decode cL_law 832 = .ok (.aload_n 2, 1) := by decide +kernel
theorem dL_law_833 : decode cL_law 833 = .ok (.aload_n 0, 1) := by decide +kernel
theorem dL_law_834 : decode cL_law 834 = .ok (.iload 4, 2) := by decide +kernel
theorem dL_law_836 : decode cL_law 836 = .ok (.iconst 1, 1) := by decide +kernel
theorem dL_law_837 : decode cL_law 837 = .ok (.iadd, 1) := by decide +kernel
theorem dL_law_838 : decode cL_law 838 = .ok (.iaload, 1) := by decide +kernel
theorem dL_law_839 : decode cL_law 839 = .ok (.aload_n 0, 1) := by decide +kernel
theorem dL_law_840 : decode cL_law 840 = .ok (.iload 4, 2) := by decide +kernel
theorem dL_law_842 : decode cL_law 842 = .ok (.iconst 2, 1) := by decide +kernel
theorem dL_law_843 : decode cL_law 843 = .ok (.iadd, 1) := by decide +kernel
theorem dL_law_844 : decode cL_law 844 = .ok (.iaload, 1) := by decide +kernel
theorem dL_law_845 : decode cL_law 845 = .ok (.invokevirtual 102, 3) := by decide +kernel
theorem dL_law_848 : decode cL_law 848 = .ok (.pop, 1) := by decide +kernel
theorem dL_law_849 : decode cL_law 849 = .ok (.goto 841, 3) := by decide +kernel
theorem dL_law_852 : decode cL_law 852 = .ok (.aload_n 1, 1) := by decide +kernel
theorem dL_law_853 : decode cL_law 853 = .ok (.aload_n 0, 1) := by decide +kernel
theorem dL_law_854 : decode cL_law 854 = .ok (.iload 4, 2) := by decide +kernel
theorem dL_law_856 : decode cL_law 856 = .ok (.iconst 1, 1) := by decide +kernel
theorem dL_law_857 : decode cL_law 857 = .ok (.iadd, 1) := by decide +kernel
theorem dL_law_858 : decode cL_law 858 = .ok (.iaload, 1) := by decide +kernel
theorem dL_law_859 : decode cL_law 859 = .ok (.aload_n 0, 1) := by decide +kernel
theorem dL_law_860 : decode cL_law 860 = .ok (.iload 4, 2) := by decide +kernel
theorem dL_law_862 : decode cL_law 862 = .ok (.iconst 2, 1) := by decide +kernel
theorem dL_law_863 : decode cL_law 863 = .ok (.iadd, 1) := by decide +kernel
theorem dL_law_864 : decode cL_law 864 = .ok (.iaload, 1) := by decide +kernel
theorem dL_law_865 : decode cL_law 865 = .ok (.aload_n 0, 1) := by decide +kernel
theorem dL_law_866 : decode cL_law 866 = .ok (.iload 4, 2) := by decide +kernel
theorem dL_law_868 : decode cL_law 868 = .ok (.iconst 3, 1) := by decide +kernel
theorem dL_law_869 : decode cL_law 869 = .ok (.iadd, 1) := by decide +kernel
theorem dL_law_870 : decode cL_law 870 = .ok (.iaload, 1) := by decide +kernel
theorem dL_law_871 : decode cL_law 871 = .ok (.invokevirtual 103, 3) := by decide +kernel
theorem dL_law_874 : decode cL_law 874 = .ok (.pop, 1) := by decide +kernel
theorem dL_law_875 : decode cL_law 875 = .ok (.aload_n 2, 1) := by decide +kernel
theorem dL_law_876 : decode cL_law 876 = .ok (.aload_n 0, 1) := by decide +kernel
theorem dL_law_877 : decode cL_law 877 = .ok (.iload 4, 2) := by decide +kernel
theorem dL_law_879 : decode cL_law 879 = .ok (.iconst 1, 1) := by decide +kernel
theorem dL_law_880 : decode cL_law 880 = .ok (.iadd, 1) := by decide +kernel
theorem dL_law_881 : decode cL_law 881 = .ok (.iaload, 1) := by decide +kernel
theorem dL_law_882 : decode cL_law 882 = .ok (.aload_n 0, 1) := by decide +kernel
theorem dL_law_883 : decode cL_law 883 = .ok (.iload 4, 2) := by decide +kernel
theorem dL_law_885 : decode cL_law 885 = .ok (.iconst 2, 1) := by decide +kernel
theorem dL_law_886 : decode cL_law 886 = .ok (.iadd, 1) := by decide +kernel
theorem dL_law_887 : decode cL_law 887 = .ok (.iaload, 1) := by decide +kernel
theorem dL_law_888 : decode cL_law 888 = .ok (.aload_n 0, 1) := by decide +kernel
theorem dL_law_889 : decode cL_law 889 = .ok (.iload 4, 2) := by decide +kernel
theorem dL_law_891 : decode cL_law 891 = .ok (.iconst 3, 1) := by decide +kernel
theorem dL_law_892 : decode cL_law 892 = .ok (.iadd, 1) := by decide +kernel
theorem dL_law_893 : decode cL_law 893 = .ok (.iaload, 1) := by decide +kernel
theorem dL_law_894 : decode cL_law 894 = .ok (.invokevirtual 106, 3) := by decide +kernel
theorem dL_law_897 : decode cL_law 897 = .ok (.pop, 1) := by decide +kernel
theorem dL_law_898 : decode cL_law 898 = .ok (.goto 792, 3) := by decide +kernel
theorem dL_law_901 : decode cL_law 901 = .ok (.aload_n 1, 1) := by decide +kernel
theorem dL_law_902 : decode cL_law 902 = .ok (.aload_n 0, 1) := by decide +kernel
theorem dL_law_903 : decode cL_law 903 = .ok (.iload 4, 2) := by decide +kernel
theorem dL_law_905 : decode cL_law 905 = .ok (.iconst 1, 1) := by decide +kernel
theorem dL_law_906 : decode cL_law 906 = .ok (.iadd, 1) := by decide +kernel
theorem dL_law_907 : decode cL_law 907 = .ok (.iaload, 1) := by decide +kernel
theorem dL_law_908 : decode cL_law 908 = .ok (.aload_n 0, 1) := by decide +kernel
theorem dL_law_909 : decode cL_law 909 = .ok (.iload 4, 2) := by decide +kernel
theorem dL_law_911 : decode cL_law 911 = .ok (.iconst 2, 1) := by decide +kernel
theorem dL_law_912 : decode cL_law 912 = .ok (.iadd, 1) := by decide +kernel
theorem dL_law_913 : decode cL_law 913 = .ok (.iaload, 1) := by decide +kernel
theorem dL_law_914 : decode cL_law 914 = .ok (.invokevirtual 107, 3) := by decide +kernel
theorem dL_law_917 : decode cL_law 917 = .ok (.pop, 1) := by decide +kernel
theorem dL_law_918 : decode cL_law 918 = .ok (.aload_n 2, 1) := by decide +kernel
theorem dL_law_919 : decode cL_law 919 = .ok (.aload_n 0, 1) := by decide +kernel
theorem dL_law_920 : decode cL_law 920 = .ok (.iload 4, 2) := by decide +kernel
theorem dL_law_922 : decode cL_law 922 = .ok (.iconst 1, 1) := by decide +kernel
theorem dL_law_923 : decode cL_law 923 = .ok (.iadd, 1) := by decide +kernel
theorem dL_law_924 : decode cL_law 924 = .ok (.iaload, 1) := by decide +kernel
theorem dL_law_925 : decode cL_law 925 = .ok (.aload_n 0, 1) := by decide +kernel
theorem dL_law_926 : decode cL_law 926 = .ok (.iload 4, 2) := by decide +kernel
theorem dL_law_928 : decode cL_law 928 = .ok (.iconst 2, 1) := by decide +kernel
theorem dL_law_929 : decode cL_law 929 = .ok (.iadd, 1) := by decide +kernel
theorem dL_law_930 : decode cL_law 930 = .ok (.iaload, 1) := by decide +kernel
theorem dL_law_931 : decode cL_law 931 = .ok (.invokevirtual 110, 3) := by decide +kernel
theorem dL_law_934 : decode cL_law 934 = .ok (.pop, 1) := by decide +kernel
theorem dL_law_935 : decode cL_law 935 = .ok (.goto 755, 3) := by decide +kernel
theorem dL_law_938 : decode cL_law 938 = .ok (.aload_n 1, 1) := by decide +kernel
theorem dL_law_939 : decode cL_law 939 = .ok (.aload_n 0, 1) := by decide +kernel
theorem dL_law_940 : decode cL_law 940 = .ok (.iload 4, 2) := by decide +kernel
theorem dL_law_942 : decode cL_law 942 = .ok (.iconst 1, 1) := by decide +kernel
theorem dL_law_943 : decode cL_law 943 = .ok (.iadd, 1) := by decide +kernel
theorem dL_law_944 : decode cL_law 944 = .ok (.iaload, 1) := by decide +kernel
theorem dL_law_945 : decode cL_law 945 = .ok (.aload_n 0, 1) := by decide +kernel
theorem dL_law_946 : decode cL_law 946 = .ok (.iload 4, 2) := by decide +kernel
theorem dL_law_948 : decode cL_law 948 = .ok (.iconst 2, 1) := by decide +kernel
theorem dL_law_949 : decode cL_law 949 = .ok (.iadd, 1) := by decide +kernel
theorem dL_law_950 : decode cL_law 950 = .ok (.iaload, 1) := by decide +kernel
theorem dL_law_951 : decode cL_law 951 = .ok (.invokevirtual 111, 3) := by decide +kernel
theorem dL_law_954 : decode cL_law 954 = .ok (.pop, 1) := by decide +kernel
theorem dL_law_955 : decode cL_law 955 = .ok (.aload_n 2, 1) := by decide +kernel
theorem dL_law_956 : decode cL_law 956 = .ok (.aload_n 0, 1) := by decide +kernel
theorem dL_law_957 : decode cL_law 957 = .ok (.iload 4, 2) := by decide +kernel
theorem dL_law_959 : decode cL_law 959 = .ok (.iconst 1, 1) := by decide +kernel
theorem dL_law_960 : decode cL_law 960 = .ok (.iadd, 1) := by decide +kernel
theorem dL_law_961 : decode cL_law 961 = .ok (.iaload, 1) := by decide +kernel
theorem dL_law_962 : decode cL_law 962 = .ok (.aload_n 0, 1) := by decide +kernel
theorem dL_law_963 : decode cL_law 963 = .ok (.iload 4, 2) := by decide +kernel
theorem dL_law_965 : decode cL_law 965 = .ok (.iconst 2, 1) := by decide +kernel
theorem dL_law_966 : decode cL_law 966 = .ok (.iadd, 1) := by decide +kernel
theorem dL_law_967 : decode cL_law 967 = .ok (.iaload, 1) := by decide +kernel
theorem dL_law_968 : decode cL_law 968 = .ok (.invokevirtual 114, 3) := by decide +kernel
theorem dL_law_971 : decode cL_law 971 = .ok (.pop, 1) := by decide +kernel
theorem dL_law_972 : decode cL_law 972 = .ok (.goto 718, 3) := by decide +kernel
theorem dL_law_975 : decode cL_law 975 = .ok (.aload_n 1, 1) := by decide +kernel
theorem dL_law_976 : decode cL_law 976 = .ok (.aload_n 0, 1) := by decide +kernel
theorem dL_law_977 : decode cL_law 977 = .ok (.iload 4, 2) := by decide +kernel
theorem dL_law_979 : decode cL_law 979 = .ok (.iconst 1, 1) := by decide +kernel
theorem dL_law_980 : decode cL_law 980 = .ok (.iadd, 1) := by decide +kernel
theorem dL_law_981 : decode cL_law 981 = .ok (.iaload, 1) := by decide +kernel
theorem dL_law_982 : decode cL_law 982 = .ok (.invokevirtual 115, 3) := by decide +kernel
theorem dL_law_985 : decode cL_law 985 = .ok (.pop, 1) := by decide +kernel
theorem dL_law_986 : decode cL_law 986 = .ok (.aload_n 2, 1) := by decide +kernel
theorem dL_law_987 : decode cL_law 987 = .ok (.aload_n 0, 1) := by decide +kernel
theorem dL_law_988 : decode cL_law 988 = .ok (.iload 4, 2) := by decide +kernel
theorem dL_law_990 : decode cL_law 990 = .ok (.iconst 1, 1) := by decide +kernel
theorem dL_law_991 : decode cL_law 991 = .ok (.iadd, 1) := by decide +kernel
theorem dL_law_992 : decode cL_law 992 = .ok (.iaload, 1) := by decide +kernel
theorem dL_law_993 : decode cL_law 993 = .ok (.invokevirtual 118, 3) := by decide +kernel
theorem dL_law_996 : decode cL_law 996 = .ok (.pop, 1) := by decide +kernel
theorem dL_law_997 : decode cL_law 997 = .ok (.goto 693, 3) := by decide +kernel
theorem dL_law_1000 : decode cL_law 1000 = .ok (.aload_n 1, 1) := by decide +kernel
theorem dL_law_1001 : decode cL_law 1001 = .ok (.aload_n 0, 1) := by decide +kernel
theorem dL_law_1002 : decode cL_law 1002 = .ok (.iload 4, 2) := by decide +kernel
theorem dL_law_1004 : decode cL_law 1004 = .ok (.iconst 1, 1) := by decide +kernel
theorem dL_law_1005 : decode cL_law 1005 = .ok (.iadd, 1) := by decide +kernel
theorem dL_law_1006 : decode cL_law 1006 = .ok (.iaload, 1) := by decide +kernel
theorem dL_law_1007 : decode cL_law 1007 = .ok (.aload_n 0, 1) := by decide +kernel
theorem dL_law_1008 : decode cL_law 1008 = .ok (.iload 4, 2) := by decide +kernel
theorem dL_law_1010 : decode cL_law 1010 = .ok (.iconst 2, 1) := by decide +kernel
theorem dL_law_1011 : decode cL_law 1011 = .ok (.iadd, 1) := by decide +kernel
theorem dL_law_1012 : decode cL_law 1012 = .ok (.iaload, 1) := by decide +kernel
theorem dL_law_1013 : decode cL_law 1013 = .ok (.aload_n 0, 1) := by decide +kernel
theorem dL_law_1014 : decode cL_law 1014 = .ok (.iload 4, 2) := by decide +kernel
theorem dL_law_1016 : decode cL_law 1016 = .ok (.iconst 3, 1) := by decide +kernel
theorem dL_law_1017 : decode cL_law 1017 = .ok (.iadd, 1) := by decide +kernel
theorem dL_law_1018 : decode cL_law 1018 = .ok (.iaload, 1) := by decide +kernel
theorem dL_law_1019 : decode cL_law 1019 = .ok (.aload_n 0, 1) := by decide +kernel
theorem dL_law_1020 : decode cL_law 1020 = .ok (.iload 4, 2) := by decide +kernel
theorem dL_law_1022 : decode cL_law 1022 = .ok (.iconst 4, 1) := by decide +kernel
theorem dL_law_1023 : decode cL_law 1023 = .ok (.iadd, 1) := by decide +kernel
theorem dL_law_1024 : decode cL_law 1024 = .ok (.iaload, 1) := by decide +kernel
theorem dL_law_1025 : decode cL_law 1025 = .ok (.invokevirtual 119, 3) := by decide +kernel
theorem dL_law_1028 : decode cL_law 1028 = .ok (.pop2, 1) := by decide +kernel
theorem dL_law_1029 : decode cL_law 1029 = .ok (.aload_n 2, 1) := by decide +kernel
theorem dL_law_1030 : decode cL_law 1030 = .ok (.aload_n 0, 1) := by decide +kernel
theorem dL_law_1031 : decode cL_law 1031 = .ok (.iload 4, 2) := by decide +kernel
theorem dL_law_1033 : decode cL_law 1033 = .ok (.iconst 1, 1) := by decide +kernel
theorem dL_law_1034 : decode cL_law 1034 = .ok (.iadd, 1) := by decide +kernel
theorem dL_law_1035 : decode cL_law 1035 = .ok (.iaload, 1) := by decide +kernel
theorem dL_law_1036 : decode cL_law 1036 = .ok (.aload_n 0, 1) := by decide +kernel
theorem dL_law_1037 : decode cL_law 1037 = .ok (.iload 4, 2) := by decide +kernel
theorem dL_law_1039 : decode cL_law 1039 = .ok (.iconst 2, 1) := by decide +kernel
theorem dL_law_1040 : decode cL_law 1040 = .ok (.iadd, 1) := by decide +kernel
theorem dL_law_1041 : decode cL_law 1041 = .ok (.iaload, 1) := by decide +kernel
theorem dL_law_1042 : decode cL_law 1042 = .ok (.aload_n 0, 1) := by decide +kernel
theorem dL_law_1043 : decode cL_law 1043 = .ok (.iload 4, 2) := by decide +kernel
theorem dL_law_1045 : decode cL_law 1045 = .ok (.iconst 3, 1) := by decide +kernel
theorem dL_law_1046 : decode cL_law 1046 = .ok (.iadd, 1) := by decide +kernel
theorem dL_law_1047 : decode cL_law 1047 = .ok (.iaload, 1) := by decide +kernel
theorem dL_law_1048 : decode cL_law 1048 = .ok (.aload_n 0, 1) := by decide +kernel
theorem dL_law_1049 : decode cL_law 1049 = .ok (.iload 4, 2) := by decide +kernel
theorem dL_law_1051 : decode cL_law 1051 = .ok (.iconst 4, 1) := by decide +kernel
theorem dL_law_1052 : decode cL_law 1052 = .ok (.iadd, 1) := by decide +kernel
theorem dL_law_1053 : decode cL_law 1053 = .ok (.iaload, 1) := by decide +kernel
theorem dL_law_1054 : decode cL_law 1054 = .ok (.invokevirtual 123, 3) := by decide +kernel
theorem dL_law_1057 : decode cL_law 1057 = .ok (.pop2, 1) := by decide +kernel
theorem dL_law_1058 : decode cL_law 1058 = .ok (.goto 632, 3) := by decide +kernel
theorem dL_law_1061 : decode cL_law 1061 = .ok (.aload_n 1, 1) := by decide +kernel
theorem dL_law_1062 : decode cL_law 1062 = .ok (.aload_n 0, 1) := by decide +kernel
theorem dL_law_1063 : decode cL_law 1063 = .ok (.iload 4, 2) := by decide +kernel
theorem dL_law_1065 : decode cL_law 1065 = .ok (.iconst 1, 1) := by decide +kernel
theorem dL_law_1066 : decode cL_law 1066 = .ok (.iadd, 1) := by decide +kernel
theorem dL_law_1067 : decode cL_law 1067 = .ok (.iaload, 1) := by decide +kernel
theorem dL_law_1068 : decode cL_law 1068 = .ok (.aload_n 0, 1) := by decide +kernel
theorem dL_law_1069 : decode cL_law 1069 = .ok (.iload 4, 2) := by decide +kernel
theorem dL_law_1071 : decode cL_law 1071 = .ok (.iconst 2, 1) := by decide +kernel
theorem dL_law_1072 : decode cL_law 1072 = .ok (.iadd, 1) := by decide +kernel
theorem dL_law_1073 : decode cL_law 1073 = .ok (.iaload, 1) := by decide +kernel
theorem dL_law_1074 : decode cL_law 1074 = .ok (.invokevirtual 124, 3) := by decide +kernel
theorem dL_law_1077 : decode cL_law 1077 = .ok (.pop, 1) := by decide +kernel
theorem dL_law_1078 : decode cL_law 1078 = .ok (.aload_n 2, 1) := by decide +kernel
theorem dL_law_1079 : decode cL_law 1079 = .ok (.aload_n 0, 1) := by decide +kernel
theorem dL_law_1080 : decode cL_law 1080 = .ok (.iload 4, 2) := by decide +kernel
theorem dL_law_1082 : decode cL_law 1082 = .ok (.iconst 1, 1) := by decide +kernel
theorem dL_law_1083 : decode cL_law 1083 = .ok (.iadd, 1) := by decide +kernel
theorem dL_law_1084 : decode cL_law 1084 = .ok (.iaload, 1) := by decide +kernel
theorem dL_law_1085 : decode cL_law 1085 = .ok (.aload_n 0, 1) := by decide +kernel
theorem dL_law_1086 : decode cL_law 1086 = .ok (.iload 4, 2) := by decide +kernel
theorem dL_law_1088 : decode cL_law 1088 = .ok (.iconst 2, 1) := by decide +kernel
theorem dL_law_1089 : decode cL_law 1089 = .ok (.iadd, 1) := by decide +kernel
theorem dL_law_1090 : decode cL_law 1090 = .ok (.iaload, 1) := by decide +kernel
theorem dL_law_1091 : decode cL_law 1091 = .ok (.invokevirtual 127, 3) := by decide +kernel
theorem dL_law_1094 : decode cL_law 1094 = .ok (.pop, 1) := by decide +kernel
theorem dL_law_1095 : decode cL_law 1095 = .ok (.goto 595, 3) := by decide +kernel
theorem dL_law_1098 : decode cL_law 1098 = .ok (.aload_n 1, 1) := by decide +kernel
theorem dL_law_1099 : decode cL_law 1099 = .ok (.aload_n 0, 1) := by decide +kernel
theorem dL_law_1100 : decode cL_law 1100 = .ok (.iload 4, 2) := by decide +kernel
theorem dL_law_1102 : decode cL_law 1102 = .ok (.iconst 1, 1) := by decide +kernel
theorem dL_law_1103 : decode cL_law 1103 = .ok (.iadd, 1) := by decide +kernel
theorem dL_law_1104 : decode cL_law 1104 = .ok (.iaload, 1) := by decide +kernel
theorem dL_law_1105 : decode cL_law 1105 = .ok (.invokevirtual 128, 3) := by decide +kernel
theorem dL_law_1108 : decode cL_law 1108 = .ok (.pop, 1) := by decide +kernel
theorem dL_law_1109 : decode cL_law 1109 = .ok (.aload_n 2, 1) := by decide +kernel
theorem dL_law_1110 : decode cL_law 1110 = .ok (.aload_n 0, 1) := by decide +kernel
theorem dL_law_1111 : decode cL_law 1111 = .ok (.iload 4, 2) := by decide +kernel
theorem dL_law_1113 : decode cL_law 1113 = .ok (.iconst 1, 1) := by decide +kernel
theorem dL_law_1114 : decode cL_law 1114 = .ok (.iadd, 1) := by decide +kernel
theorem dL_law_1115 : decode cL_law 1115 = .ok (.iaload, 1) := by decide +kernel
theorem dL_law_1116 : decode cL_law 1116 = .ok (.invokevirtual 131, 3) := by decide +kernel
theorem dL_law_1119 : decode cL_law 1119 = .ok (.pop, 1) := by decide +kernel
theorem dL_law_1120 : decode cL_law 1120 = .ok (.goto 570, 3) := by decide +kernel
theorem dL_law_1123 : decode cL_law 1123 = .ok (.aload_n 1, 1) := by decide +kernel
theorem dL_law_1124 : decode cL_law 1124 = .ok (.aload_n 0, 1) := by decide +kernel
theorem dL_law_1125 : decode cL_law 1125 = .ok (.iload 4, 2) := by decide +kernel
theorem dL_law_1127 : decode cL_law 1127 = .ok (.iconst 1, 1) := by decide +kernel
theorem dL_law_1128 : decode cL_law 1128 = .ok (.iadd, 1) := by decide +kernel
theorem dL_law_1129 : decode cL_law 1129 = .ok (.iaload, 1) := by decide +kernel
theorem dL_law_1130 : decode cL_law 1130 = .ok (.invokevirtual 132, 3) := by decide +kernel
theorem dL_law_1133 : decode cL_law 1133 = .ok (.pop, 1) := by decide +kernel
theorem dL_law_1134 : decode cL_law 1134 = .ok (.aload_n 2, 1) := by decide +kernel
theorem dL_law_1135 : decode cL_law 1135 = .ok (.aload_n 0, 1) := by decide +kernel
theorem dL_law_1136 : decode cL_law 1136 = .ok (.iload 4, 2) := by decide +kernel
theorem dL_law_1138 : decode cL_law 1138 = .ok (.iconst 1, 1) := by decide +kernel
theorem dL_law_1139 : decode cL_law 1139 = .ok (.iadd, 1) := by decide +kernel
theorem dL_law_1140 : decode cL_law 1140 = .ok (.iaload, 1) := by decide +kernel
theorem dL_law_1141 : decode cL_law 1141 = .ok (.invokevirtual 135, 3) := by decide +kernel
theorem dL_law_1144 : decode cL_law 1144 = .ok (.pop, 1) := by decide +kernel
theorem dL_law_1145 : decode cL_law 1145 = .ok (.goto 545, 3) := by decide +kernel
theorem dL_law_1148 : decode cL_law 1148 = .ok (.aload_n 1, 1) := by decide +kernel
theorem dL_law_1149 : decode cL_law 1149 = .ok (.aload_n 0, 1) := by decide +kernel
theorem dL_law_1150 : decode cL_law 1150 = .ok (.iload 4, 2) := by decide +kernel
theorem dL_law_1152 : decode cL_law 1152 = .ok (.iconst 1, 1) := by decide +kernel
theorem dL_law_1153 : decode cL_law 1153 = .ok (.iadd, 1) := by decide +kernel
theorem dL_law_1154 : decode cL_law 1154 = .ok (.iaload, 1) := by decide +kernel
theorem dL_law_1155 : decode cL_law 1155 = .ok (.aload_n 0, 1) := by decide +kernel
theorem dL_law_1156 : decode cL_law 1156 = .ok (.iload 4, 2) := by decide +kernel
theorem dL_law_1158 : decode cL_law 1158 = .ok (.iconst 2, 1) := by decide +kernel
theorem dL_law_1159 : decode cL_law 1159 = .ok (.iadd, 1) := by decide +kernel
theorem dL_law_1160 : decode cL_law 1160 = .ok (.iaload, 1) := by decide +kernel
theorem dL_law_1161 : decode cL_law 1161 = .ok (.invokevirtual 136, 3) := by decide +kernel
theorem dL_law_1164 : decode cL_law 1164 = .ok (.pop, 1) := by decide +kernel
theorem dL_law_1165 : decode cL_law 1165 = .ok (.aload_n 2, 1) := by decide +kernel
theorem dL_law_1166 : decode cL_law 1166 = .ok (.aload_n 0, 1) := by decide +kernel
theorem dL_law_1167 : decode cL_law 1167 = .ok (.iload 4, 2) := by decide +kernel
theorem dL_law_1169 : decode cL_law 1169 = .ok (.iconst 1, 1) := by decide +kernel
theorem dL_law_1170 : decode cL_law 1170 = .ok (.iadd, 1) := by decide +kernel
theorem dL_law_1171 : decode cL_law 1171 = .ok (.iaload, 1) := by decide +kernel
theorem dL_law_1172 : decode cL_law 1172 = .ok (.aload_n 0, 1) := by decide +kernel
theorem dL_law_1173 : decode cL_law 1173 = .ok (.iload 4, 2) := by decide +kernel
theorem dL_law_1175 : decode cL_law 1175 = .ok (.iconst 2, 1) := by decide +kernel
theorem dL_law_1176 : decode cL_law 1176 = .ok (.iadd, 1) := by decide +kernel
theorem dL_law_1177 : decode cL_law 1177 = .ok (.iaload, 1) := by decide +kernel
theorem dL_law_1178 : decode cL_law 1178 = .ok (.invokevirtual 139, 3) := by decide +kernel
theorem dL_law_1181 : decode cL_law 1181 = .ok (.pop, 1) := by decide +kernel
theorem dL_law_1182 : decode cL_law 1182 = .ok (.goto 508, 3) := by decide +kernel
theorem dL_law_1185 : decode cL_law 1185 = .ok (.aload_n 1, 1) := by decide +kernel
theorem dL_law_1186 : decode cL_law 1186 = .ok (.aload_n 0, 1) := by decide +kernel
theorem dL_law_1187 : decode cL_law 1187 = .ok (.iload 4, 2) := by decide +kernel
theorem dL_law_1189 : decode cL_law 1189 = .ok (.iconst 1, 1) := by decide +kernel
theorem dL_law_1190 : decode cL_law 1190 = .ok (.iadd, 1) := by decide +kernel
theorem dL_law_1191 : decode cL_law 1191 = .ok (.iaload, 1) := by decide +kernel
theorem dL_law_1192 : decode cL_law 1192 = .ok (.aload_n 0, 1) := by decide +kernel
theorem dL_law_1193 : decode cL_law 1193 = .ok (.iload 4, 2) := by decide +kernel
theorem dL_law_1195 : decode cL_law 1195 = .ok (.iconst 2, 1) := by decide +kernel
theorem dL_law_1196 : decode cL_law 1196 = .ok (.iadd, 1) := by decide +kernel
theorem dL_law_1197 : decode cL_law 1197 = .ok (.iaload, 1) := by decide +kernel
theorem dL_law_1198 : decode cL_law 1198 = .ok (.invokevirtual 140, 3) := by decide +kernel
theorem dL_law_1201 : decode cL_law 1201 = .ok (.pop, 1) := by decide +kernel
theorem dL_law_1202 : decode cL_law 1202 = .ok (.aload_n 2, 1) := by decide +kernel
theorem dL_law_1203 : decode cL_law 1203 = .ok (.aload_n 0, 1) := by decide +kernel
theorem dL_law_1204 : decode cL_law 1204 = .ok (.iload 4, 2) := by decide +kernel
theorem dL_law_1206 : decode cL_law 1206 = .ok (.iconst 1, 1) := by decide +kernel
theorem dL_law_1207 : decode cL_law 1207 = .ok (.iadd, 1) := by decide +kernel
theorem dL_law_1208 : decode cL_law 1208 = .ok (.iaload, 1) := by decide +kernel
theorem dL_law_1209 : decode cL_law 1209 = .ok (.aload_n 0, 1) := by decide +kernel
theorem dL_law_1210 : decode cL_law 1210 = .ok (.iload 4, 2) := by decide +kernel
theorem dL_law_1212 : decode cL_law 1212 = .ok (.iconst 2, 1) := by decide +kernel
theorem dL_law_1213 : decode cL_law 1213 = .ok (.iadd, 1) := by decide +kernel
theorem dL_law_1214 : decode cL_law 1214 = .ok (.iaload, 1) := by decide +kernel
theorem dL_law_1215 : decode cL_law 1215 = .ok (.invokevirtual 143, 3) := by decide +kernel
theorem dL_law_1218 : decode cL_law 1218 = .ok (.pop, 1) := by decide +kernel
theorem dL_law_1219 : decode cL_law 1219 = .ok (.goto 471, 3) := by decide +kernel
theorem dL_law_1222 : decode cL_law 1222 = .ok (.aload_n 1, 1) := by decide +kernel
theorem dL_law_1223 : decode cL_law 1223 = .ok (.aload_n 0, 1) := by decide +kernel
theorem dL_law_1224 : decode cL_law 1224 = .ok (.iload 4, 2) := by decide +kernel
theorem dL_law_1226 : decode cL_law 1226 = .ok (.iconst 1, 1) := by decide +kernel
theorem dL_law_1227 : decode cL_law 1227 = .ok (.iadd, 1) := by decide +kernel
theorem dL_law_1228 : decode cL_law 1228 = .ok (.iaload, 1) := by decide +kernel
theorem dL_law_1229 : decode cL_law 1229 = .ok (.invokevirtual 144, 3) := by decide +kernel
theorem dL_law_1232 : decode cL_law 1232 = .ok (.pop, 1) := by decide +kernel
theorem dL_law_1233 : decode cL_law 1233 = .ok (.aload_n 2, 1) := by decide +kernel
theorem dL_law_1234 : decode cL_law 1234 = .ok (.aload_n 0, 1) := by decide +kernel
theorem dL_law_1235 : decode cL_law 1235 = .ok (.iload 4, 2) := by decide +kernel
theorem dL_law_1237 : decode cL_law 1237 = .ok (.iconst 1, 1) := by decide +kernel
theorem dL_law_1238 : decode cL_law 1238 = .ok (.iadd, 1) := by decide +kernel
theorem dL_law_1239 : decode cL_law 1239 = .ok (.iaload, 1) := by decide +kernel
theorem dL_law_1240 : decode cL_law 1240 = .ok (.invokevirtual 147, 3) := by decide +kernel
theorem dL_law_1243 : decode cL_law 1243 = .ok (.pop, 1) := by decide +kernel
theorem dL_law_1244 : decode cL_law 1244 = .ok (.goto 446, 3) := by decide +kernel
theorem dL_law_1247 : decode cL_law 1247 = .ok (.aload_n 1, 1) := by decide +kernel
theorem dL_law_1248 : decode cL_law 1248 = .ok (.aload_n 0, 1) := by decide +kernel
theorem dL_law_1249 : decode cL_law 1249 = .ok (.iload 4, 2) := by decide +kernel
theorem dL_law_1251 : decode cL_law 1251 = .ok (.iconst 1, 1) := by decide +kernel
theorem dL_law_1252 : decode cL_law 1252 = .ok (.iadd, 1) := by decide +kernel
theorem dL_law_1253 : decode cL_law 1253 = .ok (.iaload, 1) := by decide +kernel
theorem dL_law_1254 : decode cL_law 1254 = .ok (.aload_n 0, 1) := by decide +kernel
theorem dL_law_1255 : decode cL_law 1255 = .ok (.iload 4, 2) := by decide +kernel
theorem dL_law_1257 : decode cL_law 1257 = .ok (.iconst 2, 1) := by decide +kernel
theorem dL_law_1258 : decode cL_law 1258 = .ok (.iadd, 1) := by decide +kernel
theorem dL_law_1259 : decode cL_law 1259 = .ok (.iaload, 1) := by decide +kernel
theorem dL_law_1260 : decode cL_law 1260 = .ok (.aload_n 0, 1) := by decide +kernel
theorem dL_law_1261 : decode cL_law 1261 = .ok (.iload 4, 2) := by decide +kernel
theorem dL_law_1263 : decode cL_law 1263 = .ok (.iconst 3, 1) := by decide +kernel
theorem dL_law_1264 : decode cL_law 1264 = .ok (.iadd, 1) := by decide +kernel
theorem dL_law_1265 : decode cL_law 1265 = .ok (.iaload, 1) := by decide +kernel
theorem dL_law_1266 : decode cL_law 1266 = .ok (.invokevirtual 148, 3) := by decide +kernel
theorem dL_law_1269 : decode cL_law 1269 = .ok (.pop, 1) := by decide +kernel
theorem dL_law_1270 : decode cL_law 1270 = .ok (.aload_n 2, 1) := by decide +kernel
theorem dL_law_1271 : decode cL_law 1271 = .ok (.aload_n 0, 1) := by decide +kernel
theorem dL_law_1272 : decode cL_law 1272 = .ok (.iload 4, 2) := by decide +kernel
theorem dL_law_1274 : decode cL_law 1274 = .ok (.iconst 1, 1) := by decide +kernel
theorem dL_law_1275 : decode cL_law 1275 = .ok (.iadd, 1) := by decide +kernel
theorem dL_law_1276 : decode cL_law 1276 = .ok (.iaload, 1) := by decide +kernel
theorem dL_law_1277 : decode cL_law 1277 = .ok (.aload_n 0, 1) := by decide +kernel
theorem dL_law_1278 : decode cL_law 1278 = .ok (.iload 4, 2) := by decide +kernel
theorem dL_law_1280 : decode cL_law 1280 = .ok (.iconst 2, 1) := by decide +kernel
theorem dL_law_1281 : decode cL_law 1281 = .ok (.iadd, 1) := by decide +kernel
theorem dL_law_1282 : decode cL_law 1282 = .ok (.iaload, 1) := by decide +kernel
theorem dL_law_1283 : decode cL_law 1283 = .ok (.aload_n 0, 1) := by decide +kernel
theorem dL_law_1284 : decode cL_law 1284 = .ok (.iload 4, 2) := by decide +kernel
theorem dL_law_1286 : decode cL_law 1286 = .ok (.iconst 3, 1) := by decide +kernel
theorem dL_law_1287 : decode cL_law 1287 = .ok (.iadd, 1) := by decide +kernel
theorem dL_law_1288 : decode cL_law 1288 = .ok (.iaload, 1) := by decide +kernel
theorem dL_law_1289 : decode cL_law 1289 = .ok (.invokevirtual 151, 3) := by decide +kernel
theorem dL_law_1292 : decode cL_law 1292 = .ok (.pop, 1) := by decide +kernel
theorem dL_law_1293 : decode cL_law 1293 = .ok (.goto 397, 3) := by decide +kernel
theorem dL_law_1296 : decode cL_law 1296 = .ok (.aload_n 1, 1) := by decide +kernel
theorem dL_law_1297 : decode cL_law 1297 = .ok (.aload_n 0, 1) := by decide +kernel
theorem dL_law_1298 : decode cL_law 1298 = .ok (.iload 4, 2) := by decide +kernel
theorem dL_law_1300 : decode cL_law 1300 = .ok (.iconst 1, 1) := by decide +kernel
theorem dL_law_1301 : decode cL_law 1301 = .ok (.iadd, 1) := by decide +kernel
theorem dL_law_1302 : decode cL_law 1302 = .ok (.iaload, 1) := by decide +kernel
theorem dL_law_1303 : decode cL_law 1303 = .ok (.aload_n 0, 1) := by decide +kernel
theorem dL_law_1304 : decode cL_law 1304 = .ok (.iload 4, 2) := by decide +kernel
theorem dL_law_1306 : decode cL_law 1306 = .ok (.iconst 2, 1) := by decide +kernel
theorem dL_law_1307 : decode cL_law 1307 = .ok (.iadd, 1) := by decide +kernel
theorem dL_law_1308 : decode cL_law 1308 = .ok (.iaload, 1) := by decide +kernel
theorem dL_law_1309 : decode cL_law 1309 = .ok (.aload_n 0, 1) := by decide +kernel
theorem dL_law_1310 : decode cL_law 1310 = .ok (.iload 4, 2) := by decide +kernel
theorem dL_law_1312 : decode cL_law 1312 = .ok (.iconst 3, 1) := by decide +kernel
theorem dL_law_1313 : decode cL_law 1313 = .ok (.iadd, 1) := by decide +kernel
theorem dL_law_1314 : decode cL_law 1314 = .ok (.iaload, 1) := by decide +kernel
theorem dL_law_1315 : decode cL_law 1315 = .ok (.invokevirtual 152, 3) := by decide +kernel
theorem dL_law_1318 : decode cL_law 1318 = .ok (.pop, 1) := by decide +kernel
theorem dL_law_1319 : decode cL_law 1319 = .ok (.aload_n 2, 1) := by decide +kernel
theorem dL_law_1320 : decode cL_law 1320 = .ok (.aload_n 0, 1) := by decide +kernel
theorem dL_law_1321 : decode cL_law 1321 = .ok (.iload 4, 2) := by decide +kernel
theorem dL_law_1323 : decode cL_law 1323 = .ok (.iconst 1, 1) := by decide +kernel
theorem dL_law_1324 : decode cL_law 1324 = .ok (.iadd, 1) := by decide +kernel
theorem dL_law_1325 : decode cL_law 1325 = .ok (.iaload, 1) := by decide +kernel
theorem dL_law_1326 : decode cL_law 1326 = .ok (.aload_n 0, 1) := by decide +kernel
theorem dL_law_1327 : decode cL_law 1327 = .ok (.iload 4, 2) := by decide +kernel
theorem dL_law_1329 : decode cL_law 1329 = .ok (.iconst 2, 1) := by decide +kernel
theorem dL_law_1330 : decode cL_law 1330 = .ok (.iadd, 1) := by decide +kernel
theorem dL_law_1331 : decode cL_law 1331 = .ok (.iaload, 1) := by decide +kernel
theorem dL_law_1332 : decode cL_law 1332 = .ok (.aload_n 0, 1) := by decide +kernel
theorem dL_law_1333 : decode cL_law 1333 = .ok (.iload 4, 2) := by decide +kernel
theorem dL_law_1335 : decode cL_law 1335 = .ok (.iconst 3, 1) := by decide +kernel
theorem dL_law_1336 : decode cL_law 1336 = .ok (.iadd, 1) := by decide +kernel
theorem dL_law_1337 : decode cL_law 1337 = .ok (.iaload, 1) := by decide +kernel
theorem dL_law_1338 : decode cL_law 1338 = .ok (.invokevirtual 155, 3) := by decide +kernel
theorem dL_law_1341 : decode cL_law 1341 = .ok (.pop, 1) := by decide +kernel
theorem dL_law_1342 : decode cL_law 1342 = .ok (.goto 348, 3) := by decide +kernel
theorem dL_law_1345 : decode cL_law 1345 = .ok (.aload_n 1, 1) := by decide +kernel
theorem dL_law_1346 : decode cL_law 1346 = .ok (.aload_n 0, 1) := by decide +kernel
theorem dL_law_1347 : decode cL_law 1347 = .ok (.iload 4, 2) := by decide +kernel
theorem dL_law_1349 : decode cL_law 1349 = .ok (.iconst 1, 1) := by decide +kernel
theorem dL_law_1350 : decode cL_law 1350 = .ok (.iadd, 1) := by decide +kernel
theorem dL_law_1351 : decode cL_law 1351 = .ok (.iaload, 1) := by decide +kernel
theorem dL_law_1352 : decode cL_law 1352 = .ok (.aload_n 0, 1) := by decide +kernel
theorem dL_law_1353 : decode cL_law 1353 = .ok (.iload 4, 2) := by decide +kernel
theorem dL_law_1355 : decode cL_law 1355 = .ok (.iconst 2, 1) := by decide +kernel
theorem dL_law_1356 : decode cL_law 1356 = .ok (.iadd, 1) := by decide +kernel
theorem dL_law_1357 : decode cL_law 1357 = .ok (.iaload, 1) := by decide +kernel
theorem dL_law_1358 : decode cL_law 1358 = .ok (.aload_n 0, 1) := by decide +kernel
theorem dL_law_1359 : decode cL_law 1359 = .ok (.iload 4, 2) := by decide +kernel
theorem dL_law_1361 : decode cL_law 1361 = .ok (.iconst 3, 1) := by decide +kernel
theorem dL_law_1362 : decode cL_law 1362 = .ok (.iadd, 1) := by decide +kernel
theorem dL_law_1363 : decode cL_law 1363 = .ok (.iaload, 1) := by decide +kernel
theorem dL_law_1364 : decode cL_law 1364 = .ok (.invokevirtual 156, 3) := by decide +kernel
theorem dL_law_1367 : decode cL_law 1367 = .ok (.pop, 1) := by decide +kernel
theorem dL_law_1368 : decode cL_law 1368 = .ok (.aload_n 2, 1) := by decide +kernel
theorem dL_law_1369 : decode cL_law 1369 = .ok (.aload_n 0, 1) := by decide +kernel
theorem dL_law_1370 : decode cL_law 1370 = .ok (.iload 4, 2) := by decide +kernel
theorem dL_law_1372 : decode cL_law 1372 = .ok (.iconst 1, 1) := by decide +kernel
theorem dL_law_1373 : decode cL_law 1373 = .ok (.iadd, 1) := by decide +kernel
theorem dL_law_1374 : decode cL_law 1374 = .ok (.iaload, 1) := by decide +kernel
theorem dL_law_1375 : decode cL_law 1375 = .ok (.aload_n 0, 1) := by decide +kernel
theorem dL_law_1376 : decode cL_law 1376 = .ok (.iload 4, 2) := by decide +kernel
theorem dL_law_1378 : decode cL_law 1378 = .ok (.iconst 2, 1) := by decide +kernel
theorem dL_law_1379 : decode cL_law 1379 = .ok (.iadd, 1) := by decide +kernel
theorem dL_law_1380 : decode cL_law 1380 = .ok (.iaload, 1) := by decide +kernel
theorem dL_law_1381 : decode cL_law 1381 = .ok (.aload_n 0, 1) := by decide +kernel
theorem dL_law_1382 : decode cL_law 1382 = .ok (.iload 4, 2) := by decide +kernel
theorem dL_law_1384 : decode cL_law 1384 = .ok (.iconst 3, 1) := by decide +kernel
theorem dL_law_1385 : decode cL_law 1385 = .ok (.iadd, 1) := by decide +kernel
theorem dL_law_1386 : decode cL_law 1386 = .ok (.iaload, 1) := by decide +kernel
theorem dL_law_1387 : decode cL_law 1387 = .ok (.invokevirtual 159, 3) := by decide +kernel
theorem dL_law_1390 : decode cL_law 1390 = .ok (.pop, 1) := by decide +kernel
theorem dL_law_1391 : decode cL_law 1391 = .ok (.goto 299, 3) := by decide +kernel
theorem dL_law_1394 : decode cL_law 1394 = .ok (.aload_n 1, 1) := by decide +kernel
theorem dL_law_1395 : decode cL_law 1395 = .ok (.aload_n 0, 1) := by decide +kernel
theorem dL_law_1396 : decode cL_law 1396 = .ok (.iload 4, 2) := by decide +kernel
theorem dL_law_1398 : decode cL_law 1398 = .ok (.iconst 1, 1) := by decide +kernel
theorem dL_law_1399 : decode cL_law 1399 = .ok (.iadd, 1) := by decide +kernel
theorem dL_law_1400 : decode cL_law 1400 = .ok (.iaload, 1) := by decide +kernel
theorem dL_law_1401 : decode cL_law 1401 = .ok (.invokevirtual 160, 3) := by decide +kernel
theorem dL_law_1404 : decode cL_law 1404 = .ok (.pop, 1) := by decide +kernel
theorem dL_law_1405 : decode cL_law 1405 = .ok (.aload_n 2, 1) := by decide +kernel
theorem dL_law_1406 : decode cL_law 1406 = .ok (.aload_n 0, 1) := by decide +kernel
theorem dL_law_1407 : decode cL_law 1407 = .ok (.iload 4, 2) := by decide +kernel
theorem dL_law_1409 : decode cL_law 1409 = .ok (.iconst 1, 1) := by decide +kernel
theorem dL_law_1410 : decode cL_law 1410 = .ok (.iadd, 1) := by decide +kernel
theorem dL_law_1411 : decode cL_law 1411 = .ok (.iaload, 1) := by decide +kernel
theorem dL_law_1412 : decode cL_law 1412 = .ok (.invokevirtual 163, 3) := by decide +kernel
theorem dL_law_1415 : decode cL_law 1415 = .ok (.pop, 1) := by decide +kernel
theorem dL_law_1416 : decode cL_law 1416 = .ok (.goto 274, 3) := by decide +kernel
theorem dL_law_1419 : decode cL_law 1419 = .ok (.aload_n 1, 1) := by decide +kernel
theorem dL_law_1420 : decode cL_law 1420 = .ok (.aload_n 0, 1) := by decide +kernel
theorem dL_law_1421 : decode cL_law 1421 = .ok (.iload 4, 2) := by decide +kernel
theorem dL_law_1423 : decode cL_law 1423 = .ok (.iconst 1, 1) := by decide +kernel
theorem dL_law_1424 : decode cL_law 1424 = .ok (.iadd, 1) := by decide +kernel
theorem dL_law_1425 : decode cL_law 1425 = .ok (.iaload, 1) := by decide +kernel
theorem dL_law_1426 : decode cL_law 1426 = .ok (.aload_n 0, 1) := by decide +kernel
theorem dL_law_1427 : decode cL_law 1427 = .ok (.iload 4, 2) := by decide +kernel
theorem dL_law_1429 : decode cL_law 1429 = .ok (.iconst 2, 1) := by decide +kernel
theorem dL_law_1430 : decode cL_law 1430 = .ok (.iadd, 1) := by decide +kernel
theorem dL_law_1431 : decode cL_law 1431 = .ok (.iaload, 1) := by decide +kernel
theorem dL_law_1432 : decode cL_law 1432 = .ok (.invokevirtual 164, 3) := by decide +kernel
theorem dL_law_1435 : decode cL_law 1435 = .ok (.pop, 1) := by decide +kernel
theorem dL_law_1436 : decode cL_law 1436 = .ok (.aload_n 2, 1) := by decide +kernel
theorem dL_law_1437 : decode cL_law 1437 = .ok (.aload_n 0, 1) := by decide +kernel
theorem dL_law_1438 : decode cL_law 1438 = .ok (.iload 4, 2) := by decide +kernel
theorem dL_law_1440 : decode cL_law 1440 = .ok (.iconst 1, 1) := by decide +kernel
theorem dL_law_1441 : decode cL_law 1441 = .ok (.iadd, 1) := by decide +kernel
theorem dL_law_1442 : decode cL_law 1442 = .ok (.iaload, 1) := by decide +kernel
theorem dL_law_1443 : decode cL_law 1443 = .ok (.aload_n 0, 1) := by decide +kernel
theorem dL_law_1444 : decode cL_law 1444 = .ok (.iload 4, 2) := by decide +kernel
theorem dL_law_1446 : decode cL_law 1446 = .ok (.iconst 2, 1) := by decide +kernel
theorem dL_law_1447 : decode cL_law 1447 = .ok (.iadd, 1) := by decide +kernel
theorem dL_law_1448 : decode cL_law 1448 = .ok (.iaload, 1) := by decide +kernel
theorem dL_law_1449 : decode cL_law 1449 = .ok (.invokevirtual 167, 3) := by decide +kernel
theorem dL_law_1452 : decode cL_law 1452 = .ok (.pop, 1) := by decide +kernel
theorem dL_law_1453 : decode cL_law 1453 = .ok (.goto 237, 3) := by decide +kernel
theorem dL_law_1456 : decode cL_law 1456 = .ok (.aload_n 1, 1) := by decide +kernel
theorem dL_law_1457 : decode cL_law 1457 = .ok (.aload_n 0, 1) := by decide +kernel
theorem dL_law_1458 : decode cL_law 1458 = .ok (.iload 4, 2) := by decide +kernel
theorem dL_law_1460 : decode cL_law 1460 = .ok (.iconst 1, 1) := by decide +kernel
theorem dL_law_1461 : decode cL_law 1461 = .ok (.iadd, 1) := by decide +kernel
theorem dL_law_1462 : decode cL_law 1462 = .ok (.iaload, 1) := by decide +kernel
theorem dL_law_1463 : decode cL_law 1463 = .ok (.aload_n 0, 1) := by decide +kernel
theorem dL_law_1464 : decode cL_law 1464 = .ok (.iload 4, 2) := by decide +kernel
theorem dL_law_1466 : decode cL_law 1466 = .ok (.iconst 2, 1) := by decide +kernel
theorem dL_law_1467 : decode cL_law 1467 = .ok (.iadd, 1) := by decide +kernel
theorem dL_law_1468 : decode cL_law 1468 = .ok (.iaload, 1) := by decide +kernel
theorem dL_law_1469 : decode cL_law 1469 = .ok (.invokevirtual 168, 3) := by decide +kernel
theorem dL_law_1472 : decode cL_law 1472 = .ok (.pop, 1) := by decide +kernel
theorem dL_law_1473 : decode cL_law 1473 = .ok (.aload_n 2, 1) := by decide +kernel
theorem dL_law_1474 : decode cL_law 1474 = .ok (.aload_n 0, 1) := by decide +kernel
theorem dL_law_1475 : decode cL_law 1475 = .ok (.iload 4, 2) := by decide +kernel
theorem dL_law_1477 : decode cL_law 1477 = .ok (.iconst 1, 1) := by decide +kernel
theorem dL_law_1478 : decode cL_law 1478 = .ok (.iadd, 1) := by decide +kernel
theorem dL_law_1479 : decode cL_law 1479 = .ok (.iaload, 1) := by decide +kernel
theorem dL_law_1480 : decode cL_law 1480 = .ok (.aload_n 0, 1) := by decide +kernel
theorem dL_law_1481 : decode cL_law 1481 = .ok (.iload 4, 2) := by decide +kernel
theorem dL_law_1483 : decode cL_law 1483 = .ok (.iconst 2, 1) := by decide +kernel
theorem dL_law_1484 : decode cL_law 1484 = .ok (.iadd, 1) := by decide +kernel
theorem dL_law_1485 : decode cL_law 1485 = .ok (.iaload, 1) := by decide +kernel
theorem dL_law_1486 : decode cL_law 1486 = .ok (.invokevirtual 171, 3) := by decide +kernel
theorem dL_law_1489 : decode cL_law 1489 = .ok (.pop, 1) := by decide +kernel
theorem dL_law_1490 : decode cL_law 1490 = .ok (.goto 200, 3) := by decide +kernel
theorem dL_law_1493 : decode cL_law 1493 = .ok (.aload_n 1, 1) := by decide +kernel
theorem dL_law_1494 : decode cL_law 1494 = .ok (.aload_n 0, 1) := by decide +kernel
theorem dL_law_1495 : decode cL_law 1495 = .ok (.iload 4, 2) := by decide +kernel
theorem dL_law_1497 : decode cL_law 1497 = .ok (.iconst 1, 1) := by decide +kernel
theorem dL_law_1498 : decode cL_law 1498 = .ok (.iadd, 1) := by decide +kernel
theorem dL_law_1499 : decode cL_law 1499 = .ok (.iaload, 1) := by decide +kernel
theorem dL_law_1500 : decode cL_law 1500 = .ok (.aload_n 0, 1) := by decide +kernel
theorem dL_law_1501 : decode cL_law 1501 = .ok (.iload 4, 2) := by decide +kernel
theorem dL_law_1503 : decode cL_law 1503 = .ok (.iconst 2, 1) := by decide +kernel
theorem dL_law_1504 : decode cL_law 1504 = .ok (.iadd, 1) := by decide +kernel
theorem dL_law_1505 : decode cL_law 1505 = .ok (.iaload, 1) := by decide +kernel
theorem dL_law_1506 : decode cL_law 1506 = .ok (.invokevirtual 172, 3) := by decide +kernel
theorem dL_law_1509 : decode cL_law 1509 = .ok (.pop, 1) := by decide +kernel
theorem dL_law_1510 : decode cL_law 1510 = .ok (.aload_n 2, 1) := by decide +kernel
theorem dL_law_1511 : decode cL_law 1511 = .ok (.aload_n 0, 1) := by decide +kernel
theorem dL_law_1512 : decode cL_law 1512 = .ok (.iload 4, 2) := by decide +kernel
theorem dL_law_1514 : decode cL_law 1514 = .ok (.iconst 1, 1) := by decide +kernel
theorem dL_law_1515 : decode cL_law 1515 = .ok (.iadd, 1) := by decide +kernel
theorem dL_law_1516 : decode cL_law 1516 = .ok (.iaload, 1) := by decide +kernel
theorem dL_law_1517 : decode cL_law 1517 = .ok (.aload_n 0, 1) := by decide +kernel
theorem dL_law_1518 : decode cL_law 1518 = .ok (.iload 4, 2) := by decide +kernel
theorem dL_law_1520 : decode cL_law 1520 = .ok (.iconst 2, 1) := by decide +kernel
theorem dL_law_1521 : decode cL_law 1521 = .ok (.iadd, 1) := by decide +kernel
theorem dL_law_1522 : decode cL_law 1522 = .ok (.iaload, 1) := by decide +kernel
theorem dL_law_1523 : decode cL_law 1523 = .ok (.invokevirtual 175, 3) := by decide +kernel
theorem dL_law_1526 : decode cL_law 1526 = .ok (.pop, 1) := by decide +kernel
theorem dL_law_1527 : decode cL_law 1527 = .ok (.goto 163, 3) := by decide +kernel
theorem dL_law_1530 : decode cL_law 1530 = .ok (.aload_n 1, 1) := by decide +kernel
theorem dL_law_1531 : decode cL_law 1531 = .ok (.aload_n 0, 1) := by decide +kernel
theorem dL_law_1532 : decode cL_law 1532 = .ok (.iload 4, 2) := by decide +kernel
theorem dL_law_1534 : decode cL_law 1534 = .ok (.iconst 1, 1) := by decide +kernel
theorem dL_law_1535 : decode cL_law 1535 = .ok (.iadd, 1) := by decide +kernel
theorem dL_law_1536 : decode cL_law 1536 = .ok (.iaload, 1) := by decide +kernel
theorem dL_law_1537 : decode cL_law 1537 = .ok (.aload_n 0, 1) := by decide +kernel
theorem dL_law_1538 : decode cL_law 1538 = .ok (.iload 4, 2) := by decide +kernel
theorem dL_law_1540 : decode cL_law 1540 = .ok (.iconst 2, 1) := by decide +kernel
theorem dL_law_1541 : decode cL_law 1541 = .ok (.iadd, 1) := by decide +kernel
theorem dL_law_1542 : decode cL_law 1542 = .ok (.iaload, 1) := by decide +kernel
theorem dL_law_1543 : decode cL_law 1543 = .ok (.invokevirtual 176, 3) := by decide +kernel
theorem dL_law_1546 : decode cL_law 1546 = .ok (.pop, 1) := by decide +kernel
theorem dL_law_1547 : decode cL_law 1547 = .ok (.aload_n 2, 1) := by decide +kernel
theorem dL_law_1548 : decode cL_law 1548 = .ok (.aload_n 0, 1) := by decide +kernel
theorem dL_law_1549 : decode cL_law 1549 = .ok (.iload 4, 2) := by decide +kernel
theorem dL_law_1551 : decode cL_law 1551 = .ok (.iconst 1, 1) := by decide +kernel
theorem dL_law_1552 : decode cL_law 1552 = .ok (.iadd, 1) := by decide +kernel
theorem dL_law_1553 : decode cL_law 1553 = .ok (.iaload, 1) := by decide +kernel
theorem dL_law_1554 : decode cL_law 1554 = .ok (.aload_n 0, 1) := by decide +kernel
theorem dL_law_1555 : decode cL_law 1555 = .ok (.iload 4, 2) := by decide +kernel
theorem dL_law_1557 : decode cL_law 1557 = .ok (.iconst 2, 1) := by decide +kernel
theorem dL_law_1558 : decode cL_law 1558 = .ok (.iadd, 1) := by decide +kernel
theorem dL_law_1559 : decode cL_law 1559 = .ok (.iaload, 1) := by decide +kernel
theorem dL_law_1560 : decode cL_law 1560 = .ok (.invokevirtual 179, 3) := by decide +kernel
theorem dL_law_1563 : decode cL_law 1563 = .ok (.pop, 1) := by decide +kernel
theorem dL_law_1564 : decode cL_law 1564 = .ok (.goto 126, 3) := by decide +kernel
theorem dL_law_1567 : decode cL_law 1567 = .ok (.aload_n 1, 1) := by decide +kernel
theorem dL_law_1568 : decode cL_law 1568 = .ok (.aload_n 0, 1) := by decide +kernel
theorem dL_law_1569 : decode cL_law 1569 = .ok (.iload 4, 2) := by decide +kernel
theorem dL_law_1571 : decode cL_law 1571 = .ok (.iconst 1, 1) := by decide +kernel
theorem dL_law_1572 : decode cL_law 1572 = .ok (.iadd, 1) := by decide +kernel
theorem dL_law_1573 : decode cL_law 1573 = .ok (.iaload, 1) := by decide +kernel
theorem dL_law_1574 : decode cL_law 1574 = .ok (.aload_n 0, 1) := by decide +kernel
theorem dL_law_1575 : decode cL_law 1575 = .ok (.iload 4, 2) := by decide +kernel
theorem dL_law_1577 : decode cL_law 1577 = .ok (.iconst 2, 1) := by decide +kernel
theorem dL_law_1578 : decode cL_law 1578 = .ok (.iadd, 1) := by decide +kernel
theorem dL_law_1579 : decode cL_law 1579 = .ok (.iaload, 1) := by decide +kernel
theorem dL_law_1580 : decode cL_law 1580 = .ok (.aload_n 0, 1) := by decide +kernel
theorem dL_law_1581 : decode cL_law 1581 = .ok (.iload 4, 2) := by decide +kernel
theorem dL_law_1583 : decode cL_law 1583 = .ok (.iconst 3, 1) := by decide +kernel
theorem dL_law_1584 : decode cL_law 1584 = .ok (.iadd, 1) := by decide +kernel
theorem dL_law_1585 : decode cL_law 1585 = .ok (.iaload, 1) := by decide +kernel
theorem dL_law_1586 : decode cL_law 1586 = .ok (.invokevirtual 180, 3) := by decide +kernel
theorem dL_law_1589 : decode cL_law 1589 = .ok (.pop, 1) := by decide +kernel
theorem dL_law_1590 : decode cL_law 1590 = .ok (.aload_n 2, 1) := by decide +kernel
theorem dL_law_1591 : decode cL_law 1591 = .ok (.aload_n 0, 1) := by decide +kernel
theorem dL_law_1592 : decode cL_law 1592 = .ok (.iload 4, 2) := by decide +kernel
theorem dL_law_1594 : decode cL_law 1594 = .ok (.iconst 1, 1) := by decide +kernel
theorem dL_law_1595 : decode cL_law 1595 = .ok (.iadd, 1) := by decide +kernel
theorem dL_law_1596 : decode cL_law 1596 = .ok (.iaload, 1) := by decide +kernel
theorem dL_law_1597 : decode cL_law 1597 = .ok (.aload_n 0, 1) := by decide +kernel
theorem dL_law_1598 : decode cL_law 1598 = .ok (.iload 4, 2) := by decide +kernel
theorem dL_law_1600 : decode cL_law 1600 = .ok (.iconst 2, 1) := by decide +kernel
theorem dL_law_1601 : decode cL_law 1601 = .ok (.iadd, 1) := by decide +kernel
theorem dL_law_1602 : decode cL_law 1602 = .ok (.iaload, 1) := by decide +kernel
theorem dL_law_1603 : decode cL_law 1603 = .ok (.aload_n 0, 1) := by decide +kernel
theorem dL_law_1604 : decode cL_law 1604 = .ok (.iload 4, 2) := by decide +kernel
theorem dL_law_1606 : decode cL_law 1606 = .ok (.iconst 3, 1) := by decide +kernel
theorem dL_law_1607 : decode cL_law 1607 = .ok (.iadd, 1) := by decide +kernel
theorem dL_law_1608 : decode cL_law 1608 = .ok (.iaload, 1) := by decide +kernel
theorem dL_law_1609 : decode cL_law 1609 = .ok (.invokevirtual 183, 3) := by decide +kernel
theorem dL_law_1612 : decode cL_law 1612 = .ok (.pop, 1) := by decide +kernel
theorem dL_law_1613 : decode cL_law 1613 = .ok (.goto 77, 3) := by decide +kernel
theorem dL_law_1616 : decode cL_law 1616 = .ok (.aload_n 1, 1) := by decide +kernel
theorem dL_law_1617 : decode cL_law 1617 = .ok (.aload_n 0, 1) := by decide +kernel
theorem dL_law_1618 : decode cL_law 1618 = .ok (.iload 4, 2) := by decide +kernel
theorem dL_law_1620 : decode cL_law 1620 = .ok (.iconst 1, 1) := by decide +kernel
theorem dL_law_1621 : decode cL_law 1621 = .ok (.iadd, 1) := by decide +kernel
theorem dL_law_1622 : decode cL_law 1622 = .ok (.iaload, 1) := by decide +kernel
theorem dL_law_1623 : decode cL_law 1623 = .ok (.aload_n 0, 1) := by decide +kernel
theorem dL_law_1624 : decode cL_law 1624 = .ok (.iload 4, 2) := by decide +kernel
theorem dL_law_1626 : decode cL_law 1626 = .ok (.iconst 2, 1) := by decide +kernel
theorem dL_law_1627 : decode cL_law 1627 = .ok (.iadd, 1) := by decide +kernel
theorem dL_law_1628 : decode cL_law 1628 = .ok (.iaload, 1) := by decide +kernel
theorem dL_law_1629 : decode cL_law 1629 = .ok (.aload_n 0, 1) := by decide +kernel
theorem dL_law_1630 : decode cL_law 1630 = .ok (.iload 4, 2) := by decide +kernel
theorem dL_law_1632 : decode cL_law 1632 = .ok (.iconst 3, 1) := by decide +kernel
theorem dL_law_1633 : decode cL_law 1633 = .ok (.iadd, 1) := by decide +kernel
theorem dL_law_1634 : decode cL_law 1634 = .ok (.iaload, 1) := by decide +kernel
theorem dL_law_1635 : decode cL_law 1635 = .ok (.invokevirtual 184, 3) := by decide +kernel
theorem dL_law_1638 : decode cL_law 1638 = .ok (.pop, 1) := by decide +kernel
theorem dL_law_1639 : decode cL_law 1639 = .ok (.aload_n 2, 1) := by decide +kernel
theorem dL_law_1640 : decode cL_law 1640 = .ok (.aload_n 0, 1) := by decide +kernel
theorem dL_law_1641 : decode cL_law 1641 = .ok (.iload 4, 2) := by decide +kernel
theorem dL_law_1643 : decode cL_law 1643 = .ok (.iconst 1, 1) := by decide +kernel
theorem dL_law_1644 : decode cL_law 1644 = .ok (.iadd, 1) := by decide +kernel
theorem dL_law_1645 : decode cL_law 1645 = .ok (.iaload, 1) := by decide +kernel
theorem dL_law_1646 : decode cL_law 1646 = .ok (.aload_n 0, 1) := by decide +kernel
theorem dL_law_1647 : decode cL_law 1647 = .ok (.iload 4, 2) := by decide +kernel
theorem dL_law_1649 : decode cL_law 1649 = .ok (.iconst 2, 1) := by decide +kernel
theorem dL_law_1650 : decode cL_law 1650 = .ok (.iadd, 1) := by decide +kernel
theorem dL_law_1651 : decode cL_law 1651 = .ok (.iaload, 1) := by decide +kernel
theorem dL_law_1652 : decode cL_law 1652 = .ok (.aload_n 0, 1) := by decide +kernel
theorem dL_law_1653 : decode cL_law 1653 = .ok (.iload 4, 2) := by decide +kernel
theorem dL_law_1655 : decode cL_law 1655 = .ok (.iconst 3, 1) := by decide +kernel
theorem dL_law_1656 : decode cL_law 1656 = .ok (.iadd, 1) := by decide +kernel
theorem dL_law_1657 : decode cL_law 1657 = .ok (.iaload, 1) := by decide +kernel
theorem dL_law_1658 : decode cL_law 1658 = .ok (.invokevirtual 187, 3) := by decide +kernel
theorem dL_law_1661 : decode cL_law 1661 = .ok (.pop, 1) := by decide +kernel
theorem dL_law_1662 : decode cL_law 1662 = .ok (.goto 28, 3) := by decide +kernel
theorem dL_law_1665 : decode cL_law 1665 = .ok (.aload_n 1, 1) := by decide +kernel
theorem dL_law_1666 : decode cL_law 1666 = .ok (.aload_n 0, 1) := by decide +kernel
theorem dL_law_1667 : decode cL_law 1667 = .ok (.iload 4, 2) := by decide +kernel
theorem dL_law_1669 : decode cL_law 1669 = .ok (.iconst 1, 1) := by decide +kernel
theorem dL_law_1670 : decode cL_law 1670 = .ok (.iadd, 1) := by decide +kernel
theorem dL_law_1671 : decode cL_law 1671 = .ok (.iaload, 1) := by decide +kernel
theorem dL_law_1672 : decode cL_law 1672 = .ok (.invokevirtual 188, 3) := by decide +kernel
theorem dL_law_1675 : decode cL_law 1675 = .ok (.pop, 1) := by decide +kernel
theorem dL_law_1676 : decode cL_law 1676 = .ok (.aload_n 2, 1) := by decide +kernel
theorem dL_law_1677 : decode cL_law 1677 = .ok (.aload_n 0, 1) := by decide +kernel
theorem dL_law_1678 : decode cL_law 1678 = .ok (.iload 4, 2) := by decide +kernel
theorem dL_law_1680 : decode cL_law 1680 = .ok (.iconst 1, 1) := by decide +kernel
theorem dL_law_1681 : decode cL_law 1681 = .ok (.iadd, 1) := by decide +kernel
theorem dL_law_1682 : decode cL_law 1682 = .ok (.iaload, 1) := by decide +kernel
theorem dL_law_1683 : decode cL_law 1683 = .ok (.invokevirtual 191, 3) := by decide +kernel
theorem dL_law_1686 : decode cL_law 1686 = .ok (.pop, 1) := by decide +kernel
theorem dL_law_1687 : decode cL_law 1687 = .ok (.goto 3, 3) := by decide +kernel
theorem dL_law_1690 : decode cL_law 1690 = .ok (.iinc 4 6, 3) := by decide +kernel
theorem dL_law_1693 : decode cL_law 1693 = .ok (.goto (-1670), 3) := by decide +kernel
theorem dL_law_1696 : decode cL_law 1696 = .ok (.iconst 1, 1) := by decide +kernel
theorem dL_law_1697 : decode cL_law 1697 = .ok (.ireturn, 1) := by decide +kernel
