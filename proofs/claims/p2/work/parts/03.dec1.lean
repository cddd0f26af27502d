theorem dX12_count_60 : decode cX12_count 60 = .ok (.aload_n 0, 1) := by decide +kernel
theorem dX12_count_61 : decode cX12_count 61 = .ok (.getfield 26, 3) := by decide +kernel
theorem dX12_count_64 : decode cX12_count 64 = .ok (.getfield 242, 3) := by decide +kernel
theorem dX12_count_67 : decode cX12_count 67 = .ok (.ireturn, 1) := by decide +kernel
theorem dX12_count_68 : decode cX12_count 68 = .ok (.aload_n 0, 1) := by decide +kernel
theorem dX12_count_69 : decode cX12_count 69 = .ok (.getfield 26, 3) := by decide +kernel
theorem dX12_count_72 : decode cX12_count 72 = .ok (.getfield 245, 3) := by decide +kernel
theorem dX12_count_75 : decode cX12_count 75 = .ok (.ireturn, 1) := by decide +kernel
theorem dX12_count_76 : decode cX12_count 76 = .ok (.aload_n 0, 1) := by decide +kernel
theorem dX12_count_77 : decode cX12_count 77 = .ok (.getfield 26, 3) := by decide +kernel
theorem dX12_count_80 : decode cX12_count 80 = .ok (.getfield 248, 3) := by decide +kernel
theorem dX12_count_83 : decode cX12_count 83 = .ok (.ireturn, 1) := by decide +kernel
theorem dX12_count_84 : decode cX12_count 84 = .ok (.aload_n 0, 1) := by decide +kernel
theorem dX12_count_85 : decode cX12_count 85 = .ok (.getfield 26, 3) := by decide +kernel
theorem dX12_count_88 : decode cX12_count 88 = .ok (.getfield 251, 3) := by decide +kernel
theorem dX12_count_91 : decode cX12_count 91 = .ok (.ireturn, 1) := by decide +kernel
theorem dX12_count_92 : decode cX12_count 92 = .ok (.aload_n 0, 1) := by decide +kernel
theorem dX12_count_93 : decode cX12_count 93 = .ok (.getfield 26, 3) := by decide +kernel
theorem dX12_count_96 : decode cX12_count 96 = .ok (.invokevirtual 254, 3) := by decide +kernel
theorem dX12_count_99 : decode cX12_count 99 = .ok (.ireturn, 1) := by decide +kernel
theorem dX12_count_100 : decode cX12_count 100 = .ok (.aload_n 0, 1) := by decide +kernel
theorem dX12_count_101 : decode cX12_count 101 = .ok (.getfield 26, 3) := by decide +kernel
theorem dX12_count_104 : decode cX12_count 104 = .ok (.invokevirtual 258, 3) := by decide +kernel
theorem dX12_count_107 : decode cX12_count 107 = .ok (.ireturn, 1) := by decide +kernel
theorem dX12_count_108 : decode cX12_count 108 = .ok (.aload_n 0, 1) := by decide +kernel
theorem dX12_count_109 : decode cX12_count 109 = .ok (.getfield 75, 3) := by decide +kernel
theorem dX12_count_112 : decode cX12_count 112 = .ok (.getfield 261, 3) := by decide +kernel
theorem dX12_count_115 : decode cX12_count 115 = .ok (.ireturn, 1) := by decide +kernel
theorem dX12_count_116 : decode cX12_count 116 = .ok (.aload_n 0, 1) := by decide +kernel
theorem dX12_count_117 : decode cX12_count 117 = .ok (.getfield 13, 3) := by decide +kernel
theorem dX12_count_120 : decode cX12_count 120 = .ok (.ireturn, 1) := by decide +kernel
theorem dX12_count_121 : decode cX12_count 121 = .ok (.iconst (-1), 1) := by decide +kernel
theorem dX12_count_122 : decode cX12_count 122 = .ok (.ireturn, 1) := by decide +kernel
theorem dX12_lose_0 : decode cX12_lose 0 = .ok (.aload_n 0, 1) := by decide +kernel
theorem dX12_lose_1 : decode cX12_lose 1 = .ok (.getfield 26, 3) := by decide +kernel
theorem dX12_lose_4 : decode cX12_lose 4 = .ok (.iload_n 1, 1) := by decide +kernel
theorem dX12_lose_5 : decode cX12_lose 5 = .ok (.invokevirtual 143, 3) := by decide +kernel
theorem dX12_lose_8 : decode cX12_lose 8 = .ok (.ifCond .eq 28, 3) := by decide +kernel
theorem dX12_lose_11 : decode cX12_lose 11 = .ok (.iload_n 2, 1) := by decide +kernel
theorem dX12_lose_12 : decode cX12_lose 12 = .ok (.ifCond .lt 24, 3) := by decide +kernel
theorem dX12_lose_15 : decode cX12_lose 15 = .ok (.iload_n 2, 1) := by decide +kernel
theorem dX12_lose_16 : decode cX12_lose 16 = .ok (.iconst 3, 1) := by decide +kernel
theorem dX12_lose_17 : decode cX12_lose 17 = .ok (.if_icmp .gt 19, 3) := by decide +kernel
theorem dX12_lose_20 : decode cX12_lose 20 = .ok (.aload_n 0, 1) := by decide +kernel
theorem dX12_lose_21 : decode cX12_lose 21 = .ok (.getfield 26, 3) := by decide +kernel
theorem dX12_lose_24 : decode cX12_lose 24 = .ok (.getfield 148, 3) := by decide +kernel
theorem dX12_lose_27 : decode cX12_lose 27 = .ok (.iload_n 1, 1) := by decide +kernel
theorem dX12_lose_28 : decode cX12_lose 28 = .ok (.aaload, 1) := by decide +kernel
theorem dX12_lose_29 : decode cX12_lose 29 = .ok (.getfield 183, 3) := by decide +kernel
theorem dX12_lose_32 : decode cX12_lose 32 = .ok (.iload_n 2, 1) := by decide +kernel
theorem dX12_lose_33 : decode cX12_lose 33 = .ok (.if_icmp .ne 5, 3) := by decide +kernel
theorem dX12_lose_36 : decode cX12_lose 36 = .ok (.iconst 0, 1) := by decide +kernel
theorem dX12_lose_37 : decode cX12_lose 37 = .ok (.ireturn, 1) := by decide +kernel
theorem dX12_lose_38 : decode cX12_lose 38 = .ok (.aload_n 0, 1) := by decide +kernel
theorem dX12_lose_39 : decode cX12_lose 39 = .ok (.iload_n 1, 1) := by decide +kernel
theorem dX12_lose_40 : decode cX12_lose 40 = .ok (.iload_n 2, 1) := by decide +kernel
theorem dX12_lose_41 : decode cX12_lose 41 = .ok (.invokevirtual 264, 3) := by decide +kernel
theorem dX12_lose_44 : decode cX12_lose 44 = .ok (.iconst 1, 1) := by decide +kernel
theorem dX12_lose_45 : decode cX12_lose 45 = .ok (.ireturn, 1) := by decide +kernel
theorem dX12_find_0 : decode cX12_find 0 = .ok (.aload_n 0, 1) := by decide +kernel
theorem dX12_find_1 : decode cX12_find 1 = .ok (.getfield 26, 3) := by decide +kernel
theorem dX12_find_4 : decode cX12_find 4 = .ok (.iload_n 1, 1) := by decide +kernel
theorem dX12_find_5 : decode cX12_find 5 = .ok (.invokevirtual 143, 3) := by decide +kernel
theorem dX12_find_8 : decode cX12_find 8 = .ok (.ifCond .eq 18, 3) := by decide +kernel
theorem dX12_find_11 : decode cX12_find 11 = .ok (.aload_n 0, 1) := by decide +kernel
theorem dX12_find_12 : decode cX12_find 12 = .ok (.getfield 26, 3) := by decide +kernel
theorem dX12_find_15 : decode cX12_find 15 = .ok (.getfield 148, 3) := by decide +kernel
theorem dX12_find_18 : decode cX12_find 18 = .ok (.iload_n 1, 1) := by decide +kernel
theorem dX12_find_19 : decode cX12_find 19 = .ok (.aaload, 1) := by decide +kernel
theorem dX12_find_20 : decode cX12_find 20 = .ok (.invokevirtual 268, 3) := by decide +kernel
theorem dX12_find_23 : decode cX12_find 23 = .ok (.ifCond .ne 5, 3) := by decide +kernel
theorem dX12_find_26 : decode cX12_find 26 = .ok (.iconst 0, 1) := by decide +kernel
theorem dX12_find_27 : decode cX12_find 27 = .ok (.ireturn, 1) := by decide +kernel
theorem dX12_find_28 : decode cX12_find 28 = .ok (.aload_n 0, 1) := by decide +kernel
theorem dX12_find_29 : decode cX12_find 29 = .ok (.iload_n 1, 1) := by decide +kernel
theorem dX12_find_30 : decode cX12_find 30 = .ok (.iconst (-1), 1) := by decide +kernel
theorem dX12_find_31 : decode cX12_find 31 = .ok (.invokevirtual 264, 3) := by decide +kernel
theorem dX12_find_34 : decode cX12_find 34 = .ok (.iconst 1, 1) := by decide +kernel
theorem dX12_find_35 : decode cX12_find 35 = .ok (.ireturn, 1) := by decide +kernel
theorem dX12_copy_0 : decode cX12_copy 0 = .ok (.aload_n 0, 1) := by decide +kernel
theorem dX12_copy_1 : decode cX12_copy 1 = .ok (.getfield 26, 3) := by decide +kernel
theorem dX12_copy_4 : decode cX12_copy 4 = .ok (.iload_n 1, 1) := by decide +kernel
theorem dX12_copy_5 : decode cX12_copy 5 = .ok (.invokevirtual 143, 3) := by decide +kernel
theorem dX12_copy_8 : decode cX12_copy 8 = .ok (.ifCond .ne 5, 3) := by decide +kernel
theorem dX12_copy_11 : decode cX12_copy 11 = .ok (.iconst (-1), 1) := by decide +kernel
theorem dX12_copy_12 : decode cX12_copy 12 = .ok (.ireturn, 1) := by decide +kernel
theorem dX12_copy_13 : decode cX12_copy 13 = .ok (.aload_n 0, 1) := by decide +kernel
theorem dX12_copy_14 : decode cX12_copy 14 = .ok (.getfield 26, 3) := by decide +kernel
theorem dX12_copy_17 : decode cX12_copy 17 = .ok (.getfield 148, 3) := by decide +kernel
theorem dX12_copy_20 : decode cX12_copy 20 = .ok (.iload_n 1, 1) := by decide +kernel
theorem dX12_copy_21 : decode cX12_copy 21 = .ok (.aaload, 1) := by decide +kernel
theorem dX12_copy_22 : decode cX12_copy 22 = .ok (.astore_n 2, 1) := by decide +kernel
theorem dX12_copy_23 : decode cX12_copy 23 = .ok (.aload_n 2, 1) := by decide +kernel
theorem dX12_copy_24 : decode cX12_copy 24 = .ok (.invokevirtual 268, 3) := by decide +kernel
theorem dX12_copy_27 : decode cX12_copy 27 = .ok (.ifCond .eq 11, 3) := by decide +kernel
theorem dX12_copy_30 : decode cX12_copy 30 = .ok (.aload_n 2, 1) := by decide +kernel
theorem dX12_copy_31 : decode cX12_copy 31 = .ok (.getfield 183, 3) := by decide +kernel
theorem dX12_copy_34 : decode cX12_copy 34 = .ok (.iconst 3, 1) := by decide +kernel
theorem dX12_copy_35 : decode cX12_copy 35 = .ok (.if_icmp .lt 6, 3) := by decide +kernel
theorem dX12_copy_38 : decode cX12_copy 38 = .ok (.bipush (-2), 2) := by decide +kernel
theorem dX12_copy_40 : decode cX12_copy 40 = .ok (.ireturn, 1) := by decide +kernel
theorem dX12_copy_41 : decode cX12_copy 41 = .ok (.aload_n 0, 1) := by decide +kernel
theorem dX12_copy_42 : decode cX12_copy 42 = .ok (.iload_n 1, 1) := by decide +kernel
theorem dX12_copy_43 : decode cX12_copy 43 = .ok (.aload_n 2, 1) := by decide +kernel
theorem dX12_copy_44 : decode cX12_copy 44 = .ok (.getfield 183, 3) := by decide +kernel
theorem dX12_copy_47 : decode cX12_copy 47 = .ok (.iconst 1, 1) := by decide +kernel
theorem dX12_copy_48 : decode cX12_copy 48 = .ok (.iadd, 1) := by decide +kernel
theorem dX12_copy_49 : decode cX12_copy 49 = .ok (.invokevirtual 264, 3) := by decide +kernel
theorem dX12_copy_52 : decode cX12_copy 52 = .ok (.aload_n 2, 1) := by decide +kernel
theorem dX12_copy_53 : decode cX12_copy 53 = .ok (.getfield 183, 3) := by decide +kernel
theorem dX12_copy_56 : decode cX12_copy 56 = .ok (.ireturn, 1) := by decide +kernel
theorem dX12_changeCopies_0 : decode cX12_changeCopies 0 = .ok (.aload_n 0, 1) := by decide +kernel
theorem dX12_changeCopies_1 : decode cX12_changeCopies 1 = .ok (.getfield 75, 3) := by decide +kernel
theorem dX12_changeCopies_4 : decode cX12_changeCopies 4 = .ok (.iconst 0, 1) := by decide +kernel
theorem dX12_changeCopies_5 : decode cX12_changeCopies 5 = .ok (.iload_n 1, 1) := by decide +kernel
theorem dX12_changeCopies_6 : decode cX12_changeCopies 6 = .ok (.aload_n 0, 1) := by decide +kernel
theorem dX12_changeCopies_7 : decode cX12_changeCopies 7 = .ok (.getfield 26, 3) := by decide +kernel
theorem dX12_changeCopies_10 : decode cX12_changeCopies 10 = .ok (.getfield 148, 3) := by decide +kernel
theorem dX12_changeCopies_13 : decode cX12_changeCopies 13 = .ok (.iload_n 1, 1) := by decide +kernel
theorem dX12_changeCopies_14 : decode cX12_changeCopies 14 = .ok (.aaload, 1) := by decide +kernel
theorem dX12_changeCopies_15 : decode cX12_changeCopies 15 = .ok (.getfield 183, 3) := by decide +kernel
theorem dX12_changeCopies_18 : decode cX12_changeCopies 18 = .ok (.invokevirtual 272, 3) := by decide +kernel
theorem dX12_changeCopies_21 : decode cX12_changeCopies 21 = .ok (.aload_n 0, 1) := by decide +kernel
theorem dX12_changeCopies_22 : decode cX12_changeCopies 22 = .ok (.getfield 26, 3) := by decide +kernel
theorem dX12_changeCopies_25 : decode cX12_changeCopies 25 = .ok (.getfield 148, 3) := by decide +kernel
theorem dX12_changeCopies_28 : decode cX12_changeCopies 28 = .ok (.iload_n 1, 1) := by decide +kernel
theorem dX12_changeCopies_29 : decode cX12_changeCopies 29 = .ok (.aaload, 1) := by decide +kernel
theorem dX12_changeCopies_30 : decode cX12_changeCopies 30 = .ok (.iload_n 2, 1) := by decide +kernel
theorem dX12_changeCopies_31 : decode cX12_changeCopies 31 = .ok (.putfield 183, 3) := by decide +kernel
theorem dX12_changeCopies_34 : decode cX12_changeCopies 34 = .ok (.return_, 1) := by decide +kernel
theorem dX12_witness_0 : decode cX12_witness 0 = .ok (.aload_n 0, 1) := by decide +kernel
theorem dX12_witness_1 : decode cX12_witness 1 = .ok (.getfield 26, 3) := by decide +kernel
theorem dX12_witness_4 : decode cX12_witness 4 = .ok (.iload_n 1, 1) := by decide +kernel
theorem dX12_witness_5 : decode cX12_witness 5 = .ok (.invokevirtual 143, 3) := by decide +kernel
theorem dX12_witness_8 : decode cX12_witness 8 = .ok (.ifCond .eq 14, 3) := by decide +kernel
theorem dX12_witness_11 : decode cX12_witness 11 = .ok (.aload_n 0, 1) := by decide +kernel
theorem dX12_witness_12 : decode cX12_witness 12 = .ok (.getfield 26, 3) := by decide +kernel
theorem dX12_witness_15 : decode cX12_witness 15 = .ok (.iload_n 2, 1) := by decide +kernel
theorem dX12_witness_16 : decode cX12_witness 16 = .ok (.invokevirtual 101, 3) := by decide +kernel
theorem dX12_witness_19 : decode cX12_witness 19 = .ok (.ifCond .ne 5, 3) := by decide +kernel
theorem dX12_witness_22 : decode cX12_witness 22 = .ok (.iconst (-1), 1) := by decide +kernel
theorem dX12_witness_23 : decode cX12_witness 23 = .ok (.ireturn, 1) := by decide +kernel
theorem dX12_witness_24 : decode cX12_witness 24 = .ok (.aload_n 0, 1) := by decide +kernel
theorem dX12_witness_25 : decode cX12_witness 25 = .ok (.getfield 26, 3) := by decide +kernel
theorem dX12_witness_28 : decode cX12_witness 28 = .ok (.getfield 148, 3) := by decide +kernel
theorem dX12_witness_31 : decode cX12_witness 31 = .ok (.iload_n 1, 1) := by decide +kernel
theorem dX12_witness_32 : decode cX12_witness 32 = .ok (.aaload, 1) := by decide +kernel
theorem dX12_witness_33 : decode cX12_witness 33 = .ok (.astore_n 3, 1) := by decide +kernel
theorem dX12_witness_34 : decode cX12_witness 34 = .ok (.aload_n 3, 1) := by decide +kernel
theorem dX12_witness_35 : decode cX12_witness 35 = .ok (.getfield 174, 3) := by decide +kernel
theorem dX12_witness_38 : decode cX12_witness 38 = .ok (.invokestatic 276, 3) := by decide +kernel
theorem dX12_witness_41 : decode cX12_witness 41 = .ok (.iconst 4, 1) := by decide +kernel
theorem dX12_witness_42 : decode cX12_witness 42 = .ok (.if_icmp .ge 19, 3) := by decide +kernel
theorem dX12_witness_45 : decode cX12_witness 45 = .ok (.aload_n 3, 1) := by decide +kernel
theorem dX12_witness_46 : decode cX12_witness 46 = .ok (.iload_n 2, 1) := by decide +kernel
theorem dX12_witness_47 : decode cX12_witness 47 = .ok (.invokevirtual 281, 3) := by decide +kernel
theorem dX12_witness_50 : decode cX12_witness 50 = .ok (.ifCond .ne 11, 3) := by decide +kernel
theorem dX12_witness_53 : decode cX12_witness 53 = .ok (.aload_n 3, 1) := by decide +kernel
theorem dX12_witness_54 : decode cX12_witness 54 = .ok (.getfield 152, 3) := by decide +kernel
theorem dX12_witness_57 : decode cX12_witness 57 = .ok (.iload_n 2, 1) := by decide +kernel
theorem dX12_witness_58 : decode cX12_witness 58 = .ok (.if_icmp .ne 6, 3) := by decide +kernel
theorem dX12_witness_61 : decode cX12_witness 61 = .ok (.bipush (-2), 2) := by decide +kernel
theorem dX12_witness_63 : decode cX12_witness 63 = .ok (.ireturn, 1) := by decide +kernel
theorem dX12_witness_64 : decode cX12_witness 64 = .ok (.aload_n 0, 1) := by decide +kernel
theorem dX12_witness_65 : decode cX12_witness 65 = .ok (.getfield 75, 3) := by decide +kernel
theorem dX12_witness_68 : decode cX12_witness 68 = .ok (.iconst 1, 1) := by decide +kernel
theorem dX12_witness_69 : decode cX12_witness 69 = .ok (.iload_n 1, 1) := by decide +kernel
theorem dX12_witness_70 : decode cX12_witness 70 = .ok (.aload_n 3, 1) := by decide +kernel
theorem dX12_witness_71 : decode cX12_witness 71 = .ok (.getfield 174, 3) := by decide +kernel
theorem dX12_witness_74 : decode cX12_witness 74 = .ok (.invokevirtual 272, 3) := by decide +kernel
theorem dX12_witness_77 : decode cX12_witness 77 = .ok (.aload_n 3, 1) := by decide +kernel
theorem dX12_witness_78 : decode cX12_witness 78 = .ok (.dup, 1) := by decide +kernel
theorem dX12_witness_79 : decode cX12_witness 79 = .ok (.getfield 174, 3) := by decide +kernel
theorem dX12_witness_82 : decode cX12_witness 82 = .ok (.iconst 1, 1) := by decide +kernel
theorem dX12_witness_83 : decode cX12_witness 83 = .ok (.iload_n 2, 1) := by decide +kernel
theorem dX12_witness_84 : decode cX12_witness 84 = .ok (.ishl, 1) := by decide +kernel
theorem dX12_witness_85 : decode cX12_witness 85 = .ok (.ior, 1) := by decide +kernel
theorem dX12_witness_86 : decode cX12_witness 86 = .ok (.putfield 174, 3) := by decide +kernel
theorem dX12_witness_89 : decode cX12_witness 89 = .ok (.aload_n 3, 1) := by decide +kernel
theorem dX12_witness_90 : decode cX12_witness 90 = .ok (.getfield 174, 3) := by decide +kernel
theorem dX12_witness_93 : decode cX12_witness 93 = .ok (.invokestatic 276, 3) := by decide +kernel
theorem dX12_witness_96 : decode cX12_witness 96 = .ok (.ireturn, 1) := by decide +kernel
theorem dX12_wed_0 : decode cX12_wed 0 = .ok (.aload_n 0, 1) := by decide +kernel
theorem dX12_wed_1 : decode cX12_wed 1 = .ok (.getfield 26, 3) := by decide +kernel
theorem dX12_wed_4 : decode cX12_wed 4 = .ok (.iload_n 1, 1) := by decide +kernel
theorem dX12_wed_5 : decode cX12_wed 5 = .ok (.invokevirtual 101, 3) := by decide +kernel
theorem dX12_wed_8 : decode cX12_wed 8 = .ok (.ifCond .eq 26, 3) := by decide +kernel
theorem dX12_wed_11 : decode cX12_wed 11 = .ok (.aload_n 0, 1) := by decide +kernel
theorem dX12_wed_12 : decode cX12_wed 12 = .ok (.getfield 26, 3) := by decide +kernel
theorem dX12_wed_15 : decode cX12_wed 15 = .ok (.iload_n 2, 1) := by decide +kernel
theorem dX12_wed_16 : decode cX12_wed 16 = .ok (.invokevirtual 101, 3) := by decide +kernel
theorem dX12_wed_19 : decode cX12_wed 19 = .ok (.ifCond .eq 15, 3) := by decide +kernel
theorem dX12_wed_22 : decode cX12_wed 22 = .ok (.iload_n 1, 1) := by decide +kernel
theorem dX12_wed_23 : decode cX12_wed 23 = .ok (.iload_n 2, 1) := by decide +kernel
theorem dX12_wed_24 : decode cX12_wed 24 = .ok (.if_icmp .eq 10, 3) := by decide +kernel
theorem dX12_wed_27 : decode cX12_wed 27 = .ok (.iload_n 3, 1) := by decide +kernel
theorem dX12_wed_28 : decode cX12_wed 28 = .ok (.invokestatic 284, 3) := by decide +kernel
theorem dX12_wed_31 : decode cX12_wed 31 = .ok (.ifCond .ne 5, 3) := by decide +kernel
theorem dX12_wed_34 : decode cX12_wed 34 = .ok (.iconst (-1), 1) := by decide +kernel
theorem dX12_wed_35 : decode cX12_wed 35 = .ok (.ireturn, 1) := by decide +kernel
theorem dX12_wed_36 : decode cX12_wed 36 = .ok (.aload_n 0, 1) := by decide +kernel
theorem dX12_wed_37 : decode cX12_wed 37 = .ok (.getfield 26, 3) := by decide +kernel
theorem dX12_wed_40 : decode cX12_wed 40 = .ok (.getfield 251, 3) := by decide +kernel
theorem dX12_wed_43 : decode cX12_wed 43 = .ok (.bipush 6, 2) := by decide +kernel
theorem dX12_wed_45 : decode cX12_wed 45 = .ok (.if_icmp .lt 6, 3) := by decide +kernel
theorem dX12_wed_48 : decode cX12_wed 48 = .ok (.bipush (-2), 2) := by decide +kernel
theorem dX12_wed_50 : decode cX12_wed 50 = .ok (.ireturn, 1) := by decide +kernel
theorem dX12_wed_51 : decode cX12_wed 51 = .ok (.aload_n 0, 1) := by decide +kernel
theorem dX12_wed_52 : decode cX12_wed 52 = .ok (.getfield 75, 3) := by decide +kernel
theorem dX12_wed_55 : decode cX12_wed 55 = .ok (.iconst 2, 1) := by decide +kernel
theorem dX12_wed_56 : decode cX12_wed 56 = .ok (.iconst 0, 1) := by decide +kernel
theorem dX12_wed_57 : decode cX12_wed 57 = .ok (.aload_n 0, 1) := by decide +kernel
theorem dX12_wed_58 : decode cX12_wed 58 = .ok (.getfield 26, 3) := by decide +kernel
theorem dX12_wed_61 : decode cX12_wed 61 = .ok (.getfield 251, 3) := by decide +kernel
theorem dX12_wed_64 : decode cX12_wed 64 = .ok (.invokevirtual 272, 3) := by decide +kernel
theorem dX12_wed_67 : decode cX12_wed 67 = .ok (.aload_n 0, 1) := by decide +kernel
theorem dX12_wed_68 : decode cX12_wed 68 = .ok (.getfield 26, 3) := by decide +kernel
theorem dX12_wed_71 : decode cX12_wed 71 = .ok (.iload_n 1, 1) := by decide +kernel
theorem dX12_wed_72 : decode cX12_wed 72 = .ok (.iload_n 2, 1) := by decide +kernel
theorem dX12_wed_73 : decode cX12_wed 73 = .ok (.iload_n 3, 1) := by decide +kernel
theorem dX12_wed_74 : decode cX12_wed 74 = .ok (.invokevirtual 287, 3) := by decide +kernel
theorem dX12_wed_77 : decode cX12_wed 77 = .ok (.aload_n 0, 1) := by decide +kernel
theorem dX12_wed_78 : decode cX12_wed 78 = .ok (.getfield 26, 3) := by decide +kernel
theorem dX12_wed_81 : decode cX12_wed 81 = .ok (.getfield 251, 3) := by decide +kernel
theorem dX12_wed_84 : decode cX12_wed 84 = .ok (.ireturn, 1) := by decide +kernel
theorem dX12_dies_0 : decode cX12_dies 0 = .ok (.aload_n 0, 1) := by decide +kernel
theorem dX12_dies_1 : decode cX12_dies 1 = .ok (.getfield 26, 3) := by decide +kernel
theorem dX12_dies_4 : decode cX12_dies 4 = .ok (.iload_n 1, 1) := by decide +kernel
theorem dX12_dies_5 : decode cX12_dies 5 = .ok (.invokevirtual 101, 3) := by decide +kernel
theorem dX12_dies_8 : decode cX12_dies 8 = .ok (.ifCond .eq 26, 3) := by decide +kernel
theorem dX12_dies_11 : decode cX12_dies 11 = .ok (.iload_n 2, 1) := by decide +kernel
theorem dX12_dies_12 : decode cX12_dies 12 = .ok (.invokestatic 290, 3) := by decide +kernel
theorem dX12_dies_15 : decode cX12_dies 15 = .ok (.ifCond .eq 19, 3) := by decide +kernel
theorem dX12_dies_18 : decode cX12_dies 18 = .ok (.aload_n 0, 1) := by decide +kernel
theorem dX12_dies_19 : decode cX12_dies 19 = .ok (.getfield 26, 3) := by decide +kernel
theorem dX12_dies_22 : decode cX12_dies 22 = .ok (.getfield 112, 3) := by decide +kernel
theorem dX12_dies_25 : decode cX12_dies 25 = .ok (.iload_n 1, 1) := by decide +kernel
theorem dX12_dies_26 : decode cX12_dies 26 = .ok (.aaload, 1) := by decide +kernel
theorem dX12_dies_27 : decode cX12_dies 27 = .ok (.getfield 121, 3) := by decide +kernel
theorem dX12_dies_30 : decode cX12_dies 30 = .ok (.iload_n 2, 1) := by decide +kernel
theorem dX12_dies_31 : decode cX12_dies 31 = .ok (.if_icmp .ne 5, 3) := by decide +kernel
theorem dX12_dies_34 : decode cX12_dies 34 = .ok (.iconst 0, 1) := by decide +kernel
theorem dX12_dies_35 : decode cX12_dies 35 = .ok (.ireturn, 1) := by decide +kernel
theorem dX12_dies_36 : decode cX12_dies 36 = .ok (.aload_n 0, 1) := by decide +kernel
theorem dX12_dies_37 : decode cX12_dies 37 = .ok (.getfield 75, 3) := by decide +kernel
theorem dX12_dies_40 : decode cX12_dies 40 = .ok (.iconst 3, 1) := by decide +kernel
theorem dX12_dies_41 : decode cX12_dies 41 = .ok (.iload_n 1, 1) := by decide +kernel
theorem dX12_dies_42 : decode cX12_dies 42 = .ok (.aload_n 0, 1) := by decide +kernel
theorem dX12_dies_43 : decode cX12_dies 43 = .ok (.getfield 26, 3) := by decide +kernel
theorem dX12_dies_46 : decode cX12_dies 46 = .ok (.getfield 112, 3) := by decide +kernel
theorem dX12_dies_49 : decode cX12_dies 49 = .ok (.iload_n 1, 1) := by decide +kernel
theorem dX12_dies_50 : decode cX12_dies 50 = .ok (.aaload, 1) := by decide +kernel
theorem dX12_dies_51 : decode cX12_dies 51 = .ok (.getfield 121, 3) := by decide +kernel
theorem dX12_dies_54 : decode cX12_dies 54 = .ok (.invokevirtual 272, 3) := by decide +kernel
theorem dX12_dies_57 : decode cX12_dies 57 = .ok (.aload_n 0, 1) := by decide +kernel
theorem dX12_dies_58 : decode cX12_dies 58 = .ok (.getfield 26, 3) := by decide +kernel
theorem dX12_dies_61 : decode cX12_dies 61 = .ok (.getfield 112, 3) := by decide +kernel
theorem dX12_dies_64 : decode cX12_dies 64 = .ok (.iload_n 1, 1) := by decide +kernel
theorem dX12_dies_65 : decode cX12_dies 65 = .ok (.aaload, 1) := by decide +kernel
theorem dX12_dies_66 : decode cX12_dies 66 = .ok (.iload_n 2, 1) := by decide +kernel
theorem dX12_dies_67 : decode cX12_dies 67 = .ok (.putfield 121, 3) := by decide +kernel
theorem dX12_dies_70 : decode cX12_dies 70 = .ok (.iconst 1, 1) := by decide +kernel
theorem dX12_dies_71 : decode cX12_dies 71 = .ok (.ireturn, 1) := by decide +kernel
theorem dX12_takeBack_0 : decode cX12_takeBack 0 = .ok (.aload_n 0, 1) := by decide +kernel
theorem dX12_takeBack_1 : decode cX12_takeBack 1 = .ok (.getfield 26, 3) := by decide +kernel
theorem dX12_takeBack_4 : decode cX12_takeBack 4 = .ok (.iload_n 1, 1) := by decide +kernel
theorem dX12_takeBack_5 : decode cX12_takeBack 5 = .ok (.invokevirtual 143, 3) := by decide +kernel
theorem dX12_takeBack_8 : decode cX12_takeBack 8 = .ok (.ifCond .eq 18, 3) := by decide +kernel
theorem dX12_takeBack_11 : decode cX12_takeBack 11 = .ok (.aload_n 0, 1) := by decide +kernel
theorem dX12_takeBack_12 : decode cX12_takeBack 12 = .ok (.getfield 26, 3) := by decide +kernel
theorem dX12_takeBack_15 : decode cX12_takeBack 15 = .ok (.getfield 148, 3) := by decide +kernel
theorem dX12_takeBack_18 : decode cX12_takeBack 18 = .ok (.iload_n 1, 1) := by decide +kernel
theorem dX12_takeBack_19 : decode cX12_takeBack 19 = .ok (.aaload, 1) := by decide +kernel
theorem dX12_takeBack_20 : decode cX12_takeBack 20 = .ok (.getfield 186, 3) := by decide +kernel
theorem dX12_takeBack_23 : decode cX12_takeBack 23 = .ok (.ifCond .eq 5, 3) := by decide +kernel
theorem dX12_takeBack_26 : decode cX12_takeBack 26 = .ok (.iconst 0, 1) := by decide +kernel
theorem dX12_takeBack_27 : decode cX12_takeBack 27 = .ok (.ireturn, 1) := by decide +kernel
theorem dX12_takeBack_28 : decode cX12_takeBack 28 = .ok (.aload_n 0, 1) := by decide +kernel
theorem dX12_takeBack_29 : decode cX12_takeBack 29 = .ok (.getfield 75, 3) := by decide +kernel
theorem dX12_takeBack_32 : decode cX12_takeBack 32 = .ok (.iconst 4, 1) := by decide +kernel
theorem dX12_takeBack_33 : decode cX12_takeBack 33 = .ok (.iload_n 1, 1) := by decide +kernel
theorem dX12_takeBack_34 : decode cX12_takeBack 34 = .ok (.iconst 0, 1) := by decide +kernel
theorem dX12_takeBack_35 : decode cX12_takeBack 35 = .ok (.invokevirtual 272, 3) := by decide +kernel
theorem dX12_takeBack_38 : decode cX12_takeBack 38 = .ok (.aload_n 0, 1) := by decide +kernel
theorem dX12_takeBack_39 : decode cX12_takeBack 39 = .ok (.getfield 26, 3) := by decide +kernel
theorem dX12_takeBack_42 : decode cX12_takeBack 42 = .ok (.getfield 148, 3) := by decide +kernel
theorem dX12_takeBack_45 : decode cX12_takeBack 45 = .ok (.iload_n 1, 1) := by decide +kernel
theorem dX12_takeBack_46 : decode cX12_takeBack 46 = .ok (.aaload, 1) := by decide +kernel
theorem dX12_takeBack_47 : decode cX12_takeBack 47 = .ok (.iconst 1, 1) := by decide +kernel
theorem dX12_takeBack_48 : decode cX12_takeBack 48 = .ok (.putfield 186, 3) := by decide +kernel
theorem dX12_takeBack_51 : decode cX12_takeBack 51 = .ok (.iconst 1, 1) := by decide +kernel
theorem dX12_takeBack_52 : decode cX12_takeBack 52 = .ok (.ireturn, 1) := by decide +kernel
theorem dX12_undo_0 : decode cX12_undo 0 = .ok (.aload_n 0, 1) := by decide +kernel
theorem dX12_undo_1 : decode cX12_undo 1 = .ok (.getfield 75, 3) := by decide +kernel
theorem dX12_undo_4 : decode cX12_undo 4 = .ok (.getfield 261, 3) := by decide +kernel
theorem dX12_undo_7 : decode cX12_undo 7 = .ok (.ifCond .ne 5, 3) := by decide +kernel
theorem dX12_undo_10 : decode cX12_undo 10 = .ok (.iconst (-1), 1) := by decide +kernel
theorem dX12_undo_11 : decode cX12_undo 11 = .ok (.ireturn, 1) := by decide +kernel
theorem dX12_undo_12 : decode cX12_undo 12 = .ok (.aload_n 0, 1) := by decide +kernel
theorem dX12_undo_13 : decode cX12_undo 13 = .ok (.getfield 75, 3) := by decide +kernel
theorem dX12_undo_16 : decode cX12_undo 16 = .ok (.invokevirtual 293, 3) := by decide +kernel
theorem dX12_undo_19 : decode cX12_undo 19 = .ok (.aload_n 0, 1) := by decide +kernel
theorem dX12_undo_20 : decode cX12_undo 20 = .ok (.getfield 75, 3) := by decide +kernel
theorem dX12_undo_23 : decode cX12_undo 23 = .ok (.getfield 261, 3) := by decide +kernel
theorem dX12_undo_26 : decode cX12_undo 26 = .ok (.ireturn, 1) := by decide +kernel
theorem dX12_form_0 : decode cX12_form 0 = .ok (.aload_n 0, 1) := by decide +kernel
theorem dX12_form_1 : decode cX12_form 1 = .ok (.getfield 26, 3) := by decide +kernel
theorem dX12_form_4 : decode cX12_form 4 = .ok (.iload_n 1, 1) := by decide +kernel
theorem dX12_form_5 : decode cX12_form 5 = .ok (.invokevirtual 143, 3) := by decide +kernel
theorem dX12_form_8 : decode cX12_form 8 = .ok (.ifCond .eq 10, 3) := by decide +kernel
theorem dX12_form_11 : decode cX12_form 11 = .ok (.iload_n 2, 1) := by decide +kernel
theorem dX12_form_12 : decode cX12_form 12 = .ok (.invokestatic 205, 3) := by decide +kernel
theorem dX12_form_15 : decode cX12_form 15 = .ok (.ifCond .ne 5, 3) := by decide +kernel
theorem dX12_form_18 : decode cX12_form 18 = .ok (.iconst (-1), 1) := by decide +kernel
theorem dX12_form_19 : decode cX12_form 19 = .ok (.ireturn, 1) := by decide +kernel
theorem dX12_form_20 : decode cX12_form 20 = .ok (.aload_n 0, 1) := by decide +kernel
theorem dX12_form_21 : decode cX12_form 21 = .ok (.getfield 26, 3) := by decide +kernel
theorem dX12_form_24 : decode cX12_form 24 = .ok (.getfield 148, 3) := by decide +kernel
theorem dX12_form_27 : decode cX12_form 27 = .ok (.iload_n 1, 1) := by decide +kernel
theorem dX12_form_28 : decode cX12_form 28 = .ok (.aaload, 1) := by decide +kernel
theorem dX12_form_29 : decode cX12_form 29 = .ok (.astore_n 3, 1) := by decide +kernel
theorem dX12_form_30 : decode cX12_form 30 = .ok (.aload_n 0, 1) := by decide +kernel
theorem dX12_form_31 : decode cX12_form 31 = .ok (.getfield 59, 3) := by decide +kernel
theorem dX12_form_34 : decode cX12_form 34 = .ok (.aload_n 3, 1) := by decide +kernel
theorem dX12_form_35 : decode cX12_form 35 = .ok (.iload_n 2, 1) := by decide +kernel
theorem dX12_form_36 : decode cX12_form 36 = .ok (.aload_n 0, 1) := by decide +kernel
theorem dX12_form_37 : decode cX12_form 37 = .ok (.getfield 59, 3) := by decide +kernel
theorem dX12_form_40 : decode cX12_form 40 = .ok (.aload_n 3, 1) := by decide +kernel
theorem dX12_form_41 : decode cX12_form 41 = .ok (.invokevirtual 296, 3) := by decide +kernel
theorem dX12_form_44 : decode cX12_form 44 = .ok (.invokevirtual 300, 3) := by decide +kernel
theorem dX12_form_47 : decode cX12_form 47 = .ok (.invokestatic 170, 3) := by decide +kernel
theorem dX12_form_50 : decode cX12_form 50 = .ok (.ireturn, 1) := by decide +kernel
theorem dX12_why_0 : decode cX12_why 0 = .ok (.aload_n 0, 1) := by decide +kernel
theorem dX12_why_1 : decode cX12_why 1 = .ok (.getfield 26, 3) := by decide +kernel
theorem dX12_why_4 : decode cX12_why 4 = .ok (.iload_n 1, 1) := by decide +kernel
theorem dX12_why_5 : decode cX12_why 5 = .ok (.invokevirtual 143, 3) := by decide +kernel
theorem dX12_why_8 : decode cX12_why 8 = .ok (.ifCond .eq 14, 3) := by decide +kernel
theorem dX12_why_11 : decode cX12_why 11 = .ok (.aload_n 0, 1) := by decide +kernel
theorem dX12_why_12 : decode cX12_why 12 = .ok (.getfield 26, 3) := by decide +kernel
theorem dX12_why_15 : decode cX12_why 15 = .ok (.iload_n 2, 1) := by decide +kernel
theorem dX12_why_16 : decode cX12_why 16 = .ok (.invokevirtual 189, 3) := by decide +kernel
theorem dX12_why_19 : decode cX12_why 19 = .ok (.ifCond .ne 5, 3) := by decide +kernel
theorem dX12_why_22 : decode cX12_why 22 = .ok (.iconst (-1), 1) := by decide +kernel
theorem dX12_why_23 : decode cX12_why 23 = .ok (.ireturn, 1) := by decide +kernel
theorem dX12_why_24 : decode cX12_why 24 = .ok (.aload_n 0, 1) := by decide +kernel
theorem dX12_why_25 : decode cX12_why 25 = .ok (.getfield 59, 3) := by decide +kernel
theorem dX12_why_28 : decode cX12_why 28 = .ok (.iload_n 2, 1) := by decide +kernel
theorem dX12_why_29 : decode cX12_why 29 = .ok (.invokevirtual 304, 3) := by decide +kernel
theorem dX12_why_32 : decode cX12_why 32 = .ok (.aload_n 0, 1) := by decide +kernel
theorem dX12_why_33 : decode cX12_why 33 = .ok (.getfield 59, 3) := by decide +kernel
theorem dX12_why_36 : decode cX12_why 36 = .ok (.getfield 307, 3) := by decide +kernel
theorem dX12_why_39 : decode cX12_why 39 = .ok (.iload_n 1, 1) := by decide +kernel
theorem dX12_why_40 : decode cX12_why 40 = .ok (.iaload, 1) := by decide +kernel
theorem dX12_why_41 : decode cX12_why 41 = .ok (.ireturn, 1) := by decide +kernel
theorem dX12_struckBy_0 : decode cX12_struckBy 0 = .ok (.aload_n 0, 1) := by decide +kernel
theorem dX12_struckBy_1 : decode cX12_struckBy 1 = .ok (.getfield 26, 3) := by decide +kernel
theorem dX12_struckBy_4 : decode cX12_struckBy 4 = .ok (.iload_n 1, 1) := by decide +kernel
theorem dX12_struckBy_5 : decode cX12_struckBy 5 = .ok (.invokevirtual 143, 3) := by decide +kernel
theorem dX12_struckBy_8 : decode cX12_struckBy 8 = .ok (.ifCond .eq 14, 3) := by decide +kernel
theorem dX12_struckBy_11 : decode cX12_struckBy 11 = .ok (.aload_n 0, 1) := by decide +kernel
theorem dX12_struckBy_12 : decode cX12_struckBy 12 = .ok (.getfield 26, 3) := by decide +kernel
theorem dX12_struckBy_15 : decode cX12_struckBy 15 = .ok (.iload_n 2, 1) := by decide +kernel
theorem dX12_struckBy_16 : decode cX12_struckBy 16 = .ok (.invokevirtual 189, 3) := by decide +kernel
theorem dX12_struckBy_19 : decode cX12_struckBy 19 = .ok (.ifCond .ne 5, 3) := by decide +kernel
theorem dX12_struckBy_22 : decode cX12_struckBy 22 = .ok (.iconst (-1), 1) := by decide +kernel
theorem dX12_struckBy_23 : decode cX12_struckBy 23 = .ok (.ireturn, 1) := by decide +kernel
theorem dX12_struckBy_24 : decode cX12_struckBy 24 = .ok (.aload_n 0, 1) := by decide +kernel
theorem dX12_struckBy_25 : decode cX12_struckBy 25 = .ok (.getfield 59, 3) := by decide +kernel
theorem dX12_struckBy_28 : decode cX12_struckBy 28 = .ok (.iload_n 2, 1) := by decide +kernel
theorem dX12_struckBy_29 : decode cX12_struckBy 29 = .ok (.invokevirtual 304, 3) := by decide +kernel
theorem dX12_struckBy_32 : decode cX12_struckBy 32 = .ok (.aload_n 0, 1) := by decide +kernel
theorem dX12_struckBy_33 : decode cX12_struckBy 33 = .ok (.getfield 59, 3) := by decide +kernel
theorem dX12_struckBy_36 : decode cX12_struckBy 36 = .ok (.getfield 310, 3) := by decide +kernel
theorem dX12_struckBy_39 : decode cX12_struckBy 39 = .ok (.iload_n 1, 1) := by decide +kernel
theorem dX12_struckBy_40 : decode cX12_struckBy 40 = .ok (.iaload, 1) := by decide +kernel
theorem dX12_struckBy_41 : decode cX12_struckBy 41 = .ok (.invokestatic 124, 3) := by decide +kernel
theorem dX12_struckBy_44 : decode cX12_struckBy 44 = .ok (.ireturn, 1) := by decide +kernel
theorem dX12_counting_0 : decode cX12_counting 0 = .ok (.aload_n 0, 1) := by decide +kernel
theorem dX12_counting_1 : decode cX12_counting 1 = .ok (.getfield 26, 3) := by decide +kernel
theorem dX12_counting_4 : decode cX12_counting 4 = .ok (.iload_n 1, 1) := by decide +kernel
theorem dX12_counting_5 : decode cX12_counting 5 = .ok (.invokevirtual 101, 3) := by decide +kernel
theorem dX12_counting_8 : decode cX12_counting 8 = .ok (.ifCond .eq 18, 3) := by decide +kernel
theorem dX12_counting_11 : decode cX12_counting 11 = .ok (.aload_n 0, 1) := by decide +kernel
theorem dX12_counting_12 : decode cX12_counting 12 = .ok (.getfield 26, 3) := by decide +kernel
theorem dX12_counting_15 : decode cX12_counting 15 = .ok (.iload_n 2, 1) := by decide +kernel
theorem dX12_counting_16 : decode cX12_counting 16 = .ok (.invokevirtual 189, 3) := by decide +kernel
theorem dX12_counting_19 : decode cX12_counting 19 = .ok (.ifCond .eq 7, 3) := by decide +kernel
theorem dX12_counting_22 : decode cX12_counting 22 = .ok (.iload_n 3, 1) := by decide +kernel
theorem dX12_counting_23 : decode cX12_counting 23 = .ok (.ifCond .ge 5, 3) := by decide +kernel
theorem dX12_counting_26 : decode cX12_counting 26 = .ok (.iconst (-1), 1) := by decide +kernel
theorem dX12_counting_27 : decode cX12_counting 27 = .ok (.ireturn, 1) := by decide +kernel
theorem dX12_counting_28 : decode cX12_counting 28 = .ok (.aload_n 0, 1) := by decide +kernel
theorem dX12_counting_29 : decode cX12_counting 29 = .ok (.getfield 59, 3) := by decide +kernel
theorem dX12_counting_32 : decode cX12_counting 32 = .ok (.iload_n 2, 1) := by decide +kernel
theorem dX12_counting_33 : decode cX12_counting 33 = .ok (.invokevirtual 304, 3) := by decide +kernel
theorem dX12_counting_36 : decode cX12_counting 36 = .ok (.iconst 0, 1) := by decide +kernel
theorem dX12_counting_37 : decode cX12_counting 37 = .ok (.istore 4, 2) := by decide +kernel
theorem dX12_counting_39 : decode cX12_counting 39 = .ok (.iconst 0, 1) := by decide +kernel
theorem dX12_counting_40 : decode cX12_counting 40 = .ok (.istore 5, 2) := by decide +kernel
theorem dX12_counting_42 : decode cX12_counting 42 = .ok (.iload 5, 2) := by decide +kernel
theorem dX12_counting_44 : decode cX12_counting 44 = .ok (.aload_n 0, 1) := by decide +kernel
theorem dX12_counting_45 : decode cX12_counting 45 = .ok (.getfield 26, 3) := by decide +kernel
theorem dX12_counting_48 : decode cX12_counting 48 = .ok (.getfield 248, 3) := by decide +kernel
theorem dX12_counting_51 : decode cX12_counting 51 = .ok (.if_icmp .ge 46, 3) := by decide +kernel
theorem dX12_counting_54 : decode cX12_counting 54 = .ok (.aload_n 0, 1) := by decide +kernel
theorem dX12_counting_55 : decode cX12_counting 55 = .ok (.getfield 26, 3) := by decide +kernel
theorem dX12_counting_58 : decode cX12_counting 58 = .ok (.getfield 313, 3) := by decide +kernel
theorem dX12_counting_61 : decode cX12_counting 61 = .ok (.iload 5, 2) := by decide +kernel
theorem dX12_counting_63 : decode cX12_counting 63 = .ok (.iaload, 1) := by decide +kernel
theorem dX12_counting_64 : decode cX12_counting 64 = .ok (.istore 6, 2) := by decide +kernel
theorem dX12_counting_66 : decode cX12_counting 66 = .ok (.aload_n 0, 1) := by decide +kernel
theorem dX12_counting_67 : decode cX12_counting 67 = .ok (.getfield 59, 3) := by decide +kernel
theorem dX12_counting_70 : decode cX12_counting 70 = .ok (.iload_n 1, 1) := by decide +kernel
theorem dX12_counting_71 : decode cX12_counting 71 = .ok (.iload 6, 2) := by decide +kernel
theorem dX12_counting_73 : decode cX12_counting 73 = .ok (.invokevirtual 316, 3) := by decide +kernel
theorem dX12_counting_76 : decode cX12_counting 76 = .ok (.ifCond .eq 15, 3) := by decide +kernel
theorem dX12_counting_79 : decode cX12_counting 79 = .ok (.iload 4, 2) := by decide +kernel
theorem dX12_counting_81 : decode cX12_counting 81 = .ok (.iload_n 3, 1) := by decide +kernel
theorem dX12_counting_82 : decode cX12_counting 82 = .ok (.if_icmp .ne 6, 3) := by decide +kernel
theorem dX12_counting_85 : decode cX12_counting 85 = .ok (.iload 6, 2) := by decide +kernel
theorem dX12_counting_87 : decode cX12_counting 87 = .ok (.ireturn, 1) := by decide +kernel
theorem dX12_counting_88 : decode cX12_counting 88 = .ok (.iinc 4 1, 3) := by decide +kernel
theorem dX12_counting_91 : decode cX12_counting 91 = .ok (.iinc 5 1, 3) := by decide +kernel
theorem dX12_counting_94 : decode cX12_counting 94 = .ok (.goto (-52), 3) := by decide +kernel
theorem dX12_counting_97 : decode cX12_counting 97 = .ok (.bipush (-2), 2) := by decide +kernel
theorem dX12_counting_99 : decode cX12_counting 99 = .ok (.ireturn, 1) := by decide +kernel
theorem dX12_taker_0 : decode cX12_taker 0 = .ok (.aload_n 0, 1) := by decide +kernel
theorem dX12_taker_1 : decode cX12_taker 1 = .ok (.getfield 26, 3) := by decide +kernel
theorem dX12_taker_4 : decode cX12_taker 4 = .ok (.iload_n 1, 1) := by decide +kernel
theorem dX12_taker_5 : decode cX12_taker 5 = .ok (.invokevirtual 101, 3) := by decide +kernel
theorem dX12_taker_8 : decode cX12_taker 8 = .ok (.ifCond .eq 14, 3) := by decide +kernel
theorem dX12_taker_11 : decode cX12_taker 11 = .ok (.aload_n 0, 1) := by decide +kernel
theorem dX12_taker_12 : decode cX12_taker 12 = .ok (.getfield 26, 3) := by decide +kernel
theorem dX12_taker_15 : decode cX12_taker 15 = .ok (.iload_n 2, 1) := by decide +kernel
theorem dX12_taker_16 : decode cX12_taker 16 = .ok (.invokevirtual 189, 3) := by decide +kernel
theorem dX12_taker_19 : decode cX12_taker 19 = .ok (.ifCond .ne 5, 3) := by decide +kernel
theorem dX12_taker_22 : decode cX12_taker 22 = .ok (.iconst (-1), 1) := by decide +kernel
theorem dX12_taker_23 : decode cX12_taker 23 = .ok (.ireturn, 1) := by decide +kernel
theorem dX12_taker_24 : decode cX12_taker 24 = .ok (.aload_n 0, 1) := by decide +kernel
theorem dX12_taker_25 : decode cX12_taker 25 = .ok (.getfield 26, 3) := by decide +kernel
theorem dX12_taker_28 : decode cX12_taker 28 = .ok (.getfield 112, 3) := by decide +kernel
theorem dX12_taker_31 : decode cX12_taker 31 = .ok (.iload_n 1, 1) := by decide +kernel
theorem dX12_taker_32 : decode cX12_taker 32 = .ok (.aaload, 1) := by decide +kernel
theorem dX12_taker_33 : decode cX12_taker 33 = .ok (.invokevirtual 320, 3) := by decide +kernel
theorem dX12_taker_36 : decode cX12_taker 36 = .ok (.ifCond .ne 6, 3) := by decide +kernel
theorem dX12_taker_39 : decode cX12_taker 39 = .ok (.bipush (-3), 2) := by decide +kernel
theorem dX12_taker_41 : decode cX12_taker 41 = .ok (.ireturn, 1) := by decide +kernel
theorem dX12_taker_42 : decode cX12_taker 42 = .ok (.aload_n 0, 1) := by decide +kernel
theorem dX12_taker_43 : decode cX12_taker 43 = .ok (.getfield 59, 3) := by decide +kernel
theorem dX12_taker_46 : decode cX12_taker 46 = .ok (.iload_n 2, 1) := by decide +kernel
theorem dX12_taker_47 : decode cX12_taker 47 = .ok (.invokevirtual 304, 3) := by decide +kernel
theorem dX12_taker_50 : decode cX12_taker 50 = .ok (.aload_n 0, 1) := by decide +kernel
theorem dX12_taker_51 : decode cX12_taker 51 = .ok (.getfield 59, 3) := by decide +kernel
theorem dX12_taker_54 : decode cX12_taker 54 = .ok (.iload_n 1, 1) := by decide +kernel
theorem dX12_taker_55 : decode cX12_taker 55 = .ok (.iload_n 2, 1) := by decide +kernel
theorem dX12_taker_56 : decode cX12_taker 56 = .ok (.invokevirtual 323, 3) := by decide +kernel
theorem dX12_taker_59 : decode cX12_taker 59 = .ok (.aload_n 0, 1) := by decide +kernel
theorem dX12_taker_60 : decode cX12_taker 60 = .ok (.getfield 59, 3) := by decide +kernel
theorem dX12_taker_63 : decode cX12_taker 63 = .ok (.getfield 326, 3) := by decide +kernel
theorem dX12_taker_66 : decode cX12_taker 66 = .ok (.invokestatic 124, 3) := by decide +kernel
theorem dX12_taker_69 : decode cX12_taker 69 = .ok (.ireturn, 1) := by decide +kernel
theorem dX12_takerBy_0 : decode cX12_takerBy 0 = .ok (.aload_n 0, 1) := by decide +kernel
theorem dX12_takerBy_1 : decode cX12_takerBy 1 = .ok (.getfield 26, 3) := by decide +kernel
theorem dX12_takerBy_4 : decode cX12_takerBy 4 = .ok (.iload_n 1, 1) := by decide +kernel
theorem dX12_takerBy_5 : decode cX12_takerBy 5 = .ok (.invokevirtual 101, 3) := by decide +kernel
theorem dX12_takerBy_8 : decode cX12_takerBy 8 = .ok (.ifCond .eq 14, 3) := by decide +kernel
theorem dX12_takerBy_11 : decode cX12_takerBy 11 = .ok (.aload_n 0, 1) := by decide +kernel
theorem dX12_takerBy_12 : decode cX12_takerBy 12 = .ok (.getfield 26, 3) := by decide +kernel
theorem dX12_takerBy_15 : decode cX12_takerBy 15 = .ok (.iload_n 2, 1) := by decide +kernel
theorem dX12_takerBy_16 : decode cX12_takerBy 16 = .ok (.invokevirtual 189, 3) := by decide +kernel
theorem dX12_takerBy_19 : decode cX12_takerBy 19 = .ok (.ifCond .ne 5, 3) := by decide +kernel
theorem dX12_takerBy_22 : decode cX12_takerBy 22 = .ok (.iconst (-1), 1) := by decide +kernel
theorem dX12_takerBy_23 : decode cX12_takerBy 23 = .ok (.ireturn, 1) := by decide +kernel
theorem dX12_takerBy_24 : decode cX12_takerBy 24 = .ok (.aload_n 0, 1) := by decide +kernel
theorem dX12_takerBy_25 : decode cX12_takerBy 25 = .ok (.getfield 26, 3) := by decide +kernel
theorem dX12_takerBy_28 : decode cX12_takerBy 28 = .ok (.getfield 112, 3) := by decide +kernel
theorem dX12_takerBy_31 : decode cX12_takerBy 31 = .ok (.iload_n 1, 1) := by decide +kernel
theorem dX12_takerBy_32 : decode cX12_takerBy 32 = .ok (.aaload, 1) := by decide +kernel
theorem dX12_takerBy_33 : decode cX12_takerBy 33 = .ok (.invokevirtual 320, 3) := by decide +kernel
theorem dX12_takerBy_36 : decode cX12_takerBy 36 = .ok (.ifCond .ne 6, 3) := by decide +kernel
theorem dX12_takerBy_39 : decode cX12_takerBy 39 = .ok (.bipush (-3), 2) := by decide +kernel
theorem dX12_takerBy_41 : decode cX12_takerBy 41 = .ok (.ireturn, 1) := by decide +kernel
theorem dX12_takerBy_42 : decode cX12_takerBy 42 = .ok (.aload_n 0, 1) := by decide +kernel
theorem dX12_takerBy_43 : decode cX12_takerBy 43 = .ok (.getfield 59, 3) := by decide +kernel
theorem dX12_takerBy_46 : decode cX12_takerBy 46 = .ok (.iload_n 2, 1) := by decide +kernel
theorem dX12_takerBy_47 : decode cX12_takerBy 47 = .ok (.invokevirtual 304, 3) := by decide +kernel
theorem dX12_takerBy_50 : decode cX12_takerBy 50 = .ok (.aload_n 0, 1) := by decide +kernel
theorem dX12_takerBy_51 : decode cX12_takerBy 51 = .ok (.getfield 59, 3) := by decide +kernel
theorem dX12_takerBy_54 : decode cX12_takerBy 54 = .ok (.iload_n 1, 1) := by decide +kernel
theorem dX12_takerBy_55 : decode cX12_takerBy 55 = .ok (.iload_n 2, 1) := by decide +kernel
theorem dX12_takerBy_56 : decode cX12_takerBy 56 = .ok (.invokevirtual 323, 3) := by decide +kernel
theorem dX12_takerBy_59 : decode cX12_takerBy 59 = .ok (.aload_n 0, 1) := by decide +kernel
theorem dX12_takerBy_60 : decode cX12_takerBy 60 = .ok (.getfield 59, 3) := by decide +kernel
theorem dX12_takerBy_63 : decode cX12_takerBy 63 = .ok (.getfield 329, 3) := by decide +kernel
theorem dX12_takerBy_66 : decode cX12_takerBy 66 = .ok (.invokestatic 124, 3) := by decide +kernel
theorem dX12_takerBy_69 : decode cX12_takerBy 69 = .ok (.ireturn, 1) := by decide +kernel
theorem dX12_heirs_0 : decode cX12_heirs 0 = .ok (.aload_n 0, 1) := by decide +kernel
theorem dX12_heirs_1 : decode cX12_heirs 1 = .ok (.getfield 26, 3) := by decide +kernel
theorem dX12_heirs_4 : decode cX12_heirs 4 = .ok (.iload_n 1, 1) := by decide +kernel
theorem dX12_heirs_5 : decode cX12_heirs 5 = .ok (.invokevirtual 101, 3) := by decide +kernel
theorem dX12_heirs_8 : decode cX12_heirs 8 = .ok (.ifCond .ne 5, 3) := by decide +kernel
theorem dX12_heirs_11 : decode cX12_heirs 11 = .ok (.iconst (-1), 1) := by decide +kernel
theorem dX12_heirs_12 : decode cX12_heirs 12 = .ok (.ireturn, 1) := by decide +kernel
theorem dX12_heirs_13 : decode cX12_heirs 13 = .ok (.aload_n 0, 1) := by decide +kernel
theorem dX12_heirs_14 : decode cX12_heirs 14 = .ok (.getfield 26, 3) := by decide +kernel
theorem dX12_heirs_17 : decode cX12_heirs 17 = .ok (.getfield 112, 3) := by decide +kernel
theorem dX12_heirs_20 : decode cX12_heirs 20 = .ok (.iload_n 1, 1) := by decide +kernel
theorem dX12_heirs_21 : decode cX12_heirs 21 = .ok (.aaload, 1) := by decide +kernel
theorem dX12_heirs_22 : decode cX12_heirs 22 = .ok (.invokevirtual 320, 3) := by decide +kernel
theorem dX12_heirs_25 : decode cX12_heirs 25 = .ok (.ifCond .ne 6, 3) := by decide +kernel
theorem dX12_heirs_28 : decode cX12_heirs 28 = .ok (.bipush (-3), 2) := by decide +kernel
theorem dX12_heirs_30 : decode cX12_heirs 30 = .ok (.ireturn, 1) := by decide +kernel
theorem dX12_heirs_31 : decode cX12_heirs 31 = .ok (.aload_n 0, 1) := by decide +kernel
theorem dX12_heirs_32 : decode cX12_heirs 32 = .ok (.getfield 26, 3) := by decide +kernel
theorem dX12_heirs_35 : decode cX12_heirs 35 = .ok (.iload_n 1, 1) := by decide +kernel
theorem dX12_heirs_36 : decode cX12_heirs 36 = .ok (.invokevirtual 332, 3) := by decide +kernel
theorem dX12_heirs_39 : decode cX12_heirs 39 = .ok (.ireturn, 1) := by decide +kernel
theorem dX12_margin_0 : decode cX12_margin 0 = .ok (.aload_n 0, 1) := by decide +kernel
theorem dX12_margin_1 : decode cX12_margin 1 = .ok (.getfield 26, 3) := by decide +kernel
theorem dX12_margin_4 : decode cX12_margin 4 = .ok (.iload_n 1, 1) := by decide +kernel
theorem dX12_margin_5 : decode cX12_margin 5 = .ok (.invokevirtual 143, 3) := by decide +kernel
theorem dX12_margin_8 : decode cX12_margin 8 = .ok (.ifCond .ne 5, 3) := by decide +kernel
theorem dX12_margin_11 : decode cX12_margin 11 = .ok (.iconst (-1), 1) := by decide +kernel
theorem dX12_margin_12 : decode cX12_margin 12 = .ok (.ireturn, 1) := by decide +kernel
theorem dX12_margin_13 : decode cX12_margin 13 = .ok (.aload_n 0, 1) := by decide +kernel
theorem dX12_margin_14 : decode cX12_margin 14 = .ok (.getfield 26, 3) := by decide +kernel
theorem dX12_margin_17 : decode cX12_margin 17 = .ok (.getfield 148, 3) := by decide +kernel
theorem dX12_margin_20 : decode cX12_margin 20 = .ok (.iload_n 1, 1) := by decide +kernel
theorem dX12_margin_21 : decode cX12_margin 21 = .ok (.aaload, 1) := by decide +kernel
theorem dX12_margin_22 : decode cX12_margin 22 = .ok (.astore_n 2, 1) := by decide +kernel
theorem dX12_margin_23 : decode cX12_margin 23 = .ok (.aload_n 0, 1) := by decide +kernel
theorem dX12_margin_24 : decode cX12_margin 24 = .ok (.getfield 26, 3) := by decide +kernel
theorem dX12_margin_27 : decode cX12_margin 27 = .ok (.getfield 208, 3) := by decide +kernel
theorem dX12_margin_30 : decode cX12_margin 30 = .ok (.iconst 0, 1) := by decide +kernel
theorem dX12_margin_31 : decode cX12_margin 31 = .ok (.aaload, 1) := by decide +kernel
theorem dX12_margin_32 : decode cX12_margin 32 = .ok (.getfield 212, 3) := by decide +kernel
theorem dX12_margin_35 : decode cX12_margin 35 = .ok (.aload_n 0, 1) := by decide +kernel
theorem dX12_margin_36 : decode cX12_margin 36 = .ok (.getfield 26, 3) := by decide +kernel
theorem dX12_margin_39 : decode cX12_margin 39 = .ok (.getfield 208, 3) := by decide +kernel
theorem dX12_margin_42 : decode cX12_margin 42 = .ok (.iconst 1, 1) := by decide +kernel
theorem dX12_margin_43 : decode cX12_margin 43 = .ok (.aaload, 1) := by decide +kernel
theorem dX12_margin_44 : decode cX12_margin 44 = .ok (.getfield 212, 3) := by decide +kernel
theorem dX12_margin_47 : decode cX12_margin 47 = .ok (.invokestatic 335, 3) := by decide +kernel
theorem dX12_margin_50 : decode cX12_margin 50 = .ok (.istore_n 3, 1) := by decide +kernel
theorem dX12_margin_51 : decode cX12_margin 51 = .ok (.iload_n 3, 1) := by decide +kernel
theorem dX12_margin_52 : decode cX12_margin 52 = .ok (.ifCond .eq 27, 3) := by decide +kernel
theorem dX12_margin_55 : decode cX12_margin 55 = .ok (.aload_n 0, 1) := by decide +kernel
theorem dX12_margin_56 : decode cX12_margin 56 = .ok (.getfield 59, 3) := by decide +kernel
theorem dX12_margin_59 : decode cX12_margin 59 = .ok (.aload_n 2, 1) := by decide +kernel
theorem dX12_margin_60 : decode cX12_margin 60 = .ok (.iconst 0, 1) := by decide +kernel
theorem dX12_margin_61 : decode cX12_margin 61 = .ok (.invokevirtual 340, 3) := by decide +kernel
theorem dX12_margin_64 : decode cX12_margin 64 = .ok (.ifCond .ne 15, 3) := by decide +kernel
theorem dX12_margin_67 : decode cX12_margin 67 = .ok (.aload_n 0, 1) := by decide +kernel
theorem dX12_margin_68 : decode cX12_margin 68 = .ok (.getfield 59, 3) := by decide +kernel
theorem dX12_margin_71 : decode cX12_margin 71 = .ok (.aload_n 2, 1) := by decide +kernel
theorem dX12_margin_72 : decode cX12_margin 72 = .ok (.iconst 1, 1) := by decide +kernel
theorem dX12_margin_73 : decode cX12_margin 73 = .ok (.invokevirtual 340, 3) := by decide +kernel
theorem dX12_margin_76 : decode cX12_margin 76 = .ok (.ifCond .eq 6, 3) := by decide +kernel
theorem dX12_margin_79 : decode cX12_margin 79 = .ok (.bipush (-3), 2) := by decide +kernel
theorem dX12_margin_81 : decode cX12_margin 81 = .ok (.ireturn, 1) := by decide +kernel
theorem dX12_margin_82 : decode cX12_margin 82 = .ok (.aload_n 0, 1) := by decide +kernel
theorem dX12_margin_83 : decode cX12_margin 83 = .ok (.getfield 59, 3) := by decide +kernel
theorem dX12_margin_86 : decode cX12_margin 86 = .ok (.aload_n 2, 1) := by decide +kernel
theorem dX12_margin_87 : decode cX12_margin 87 = .ok (.invokevirtual 296, 3) := by decide +kernel
theorem dX12_margin_90 : decode cX12_margin 90 = .ok (.istore 4, 2) := by decide +kernel
theorem dX12_margin_92 : decode cX12_margin 92 = .ok (.iload 4, 2) := by decide +kernel
theorem dX12_margin_94 : decode cX12_margin 94 = .ok (.iload_n 3, 1) := by decide +kernel
theorem dX12_margin_95 : decode cX12_margin 95 = .ok (.if_icmp .ge 8, 3) := by decide +kernel
theorem dX12_margin_98 : decode cX12_margin 98 = .ok (.bipush (-2), 2) := by decide +kernel
theorem dX12_margin_100 : decode cX12_margin 100 = .ok (.goto 9, 3) := by decide +kernel
theorem dX12_margin_103 : decode cX12_margin 103 = .ok (.iload 4, 2) := by decide +kernel
theorem dX12_margin_105 : decode cX12_margin 105 = .ok (.iload_n 3, 1) := by decide +kernel
theorem dX12_margin_106 : decode cX12_margin 106 = .ok (.isub, 1) := by decide +kernel
theorem dX12_margin_107 : decode cX12_margin 107 = .ok (.iconst 1, 1) := by decide +kernel
theorem dX12_margin_108 : decode cX12_margin 108 = .ok (.iadd, 1) := by decide +kernel
theorem dX12_margin_109 : decode cX12_margin 109 = .ok (.ireturn, 1) := by decide +kernel
theorem dX12_naming_0 : decode cX12_naming 0 = .ok (.aload_n 0, 1) := by decide +kernel
theorem dX12_naming_1 : decode cX12_naming 1 = .ok (.getfield 26, 3) := by decide +kernel
theorem dX12_naming_4 : decode cX12_naming 4 = .ok (.iload_n 1, 1) := by decide +kernel
theorem dX12_naming_5 : decode cX12_naming 5 = .ok (.invokevirtual 101, 3) := by decide +kernel
theorem dX12_naming_8 : decode cX12_naming 8 = .ok (.ifCond .eq 14, 3) := by decide +kernel
theorem dX12_naming_11 : decode cX12_naming 11 = .ok (.aload_n 0, 1) := by decide +kernel
theorem dX12_naming_12 : decode cX12_naming 12 = .ok (.getfield 26, 3) := by decide +kernel
theorem dX12_naming_15 : decode cX12_naming 15 = .ok (.iload_n 2, 1) := by decide +kernel
theorem dX12_naming_16 : decode cX12_naming 16 = .ok (.invokevirtual 101, 3) := by decide +kernel
theorem dX12_naming_19 : decode cX12_naming 19 = .ok (.ifCond .ne 5, 3) := by decide +kernel
theorem dX12_naming_22 : decode cX12_naming 22 = .ok (.iconst (-1), 1) := by decide +kernel
theorem dX12_naming_23 : decode cX12_naming 23 = .ok (.ireturn, 1) := by decide +kernel
theorem dX12_naming_24 : decode cX12_naming 24 = .ok (.iconst 0, 1) := by decide +kernel
theorem dX12_naming_25 : decode cX12_naming 25 = .ok (.istore_n 3, 1) := by decide +kernel
theorem dX12_naming_26 : decode cX12_naming 26 = .ok (.iconst 0, 1) := by decide +kernel
theorem dX12_naming_27 : decode cX12_naming 27 = .ok (.istore 4, 2) := by decide +kernel
theorem dX12_naming_29 : decode cX12_naming 29 = .ok (.iload 4, 2) := by decide +kernel
theorem dX12_naming_31 : decode cX12_naming 31 = .ok (.aload_n 0, 1) := by decide +kernel
theorem dX12_naming_32 : decode cX12_naming 32 = .ok (.getfield 26, 3) := by decide +kernel
theorem dX12_naming_35 : decode cX12_naming 35 = .ok (.getfield 248, 3) := by decide +kernel
theorem dX12_naming_38 : decode cX12_naming 38 = .ok (.if_icmp .ge 50, 3) := by decide +kernel
theorem dX12_naming_41 : decode cX12_naming 41 = .ok (.aload_n 0, 1) := by decide +kernel
theorem dX12_naming_42 : decode cX12_naming 42 = .ok (.getfield 26, 3) := by decide +kernel
theorem dX12_naming_45 : decode cX12_naming 45 = .ok (.getfield 148, 3) := by decide +kernel
theorem dX12_naming_48 : decode cX12_naming 48 = .ok (.iload 4, 2) := by decide +kernel
theorem dX12_naming_50 : decode cX12_naming 50 = .ok (.aaload, 1) := by decide +kernel
theorem dX12_naming_51 : decode cX12_naming 51 = .ok (.getfield 152, 3) := by decide +kernel
theorem dX12_naming_54 : decode cX12_naming 54 = .ok (.iload_n 1, 1) := by decide +kernel
theorem dX12_naming_55 : decode cX12_naming 55 = .ok (.if_icmp .ne 27, 3) := by decide +kernel
theorem dX12_naming_58 : decode cX12_naming 58 = .ok (.aload_n 0, 1) := by decide +kernel
theorem dX12_naming_59 : decode cX12_naming 59 = .ok (.getfield 26, 3) := by decide +kernel
theorem dX12_naming_62 : decode cX12_naming 62 = .ok (.getfield 148, 3) := by decide +kernel
theorem dX12_naming_65 : decode cX12_naming 65 = .ok (.iload 4, 2) := by decide +kernel
theorem dX12_naming_67 : decode cX12_naming 67 = .ok (.aaload, 1) := by decide +kernel
theorem dX12_naming_68 : decode cX12_naming 68 = .ok (.iload_n 2, 1) := by decide +kernel
theorem dX12_naming_69 : decode cX12_naming 69 = .ok (.invokevirtual 344, 3) := by decide +kernel
theorem dX12_naming_72 : decode cX12_naming 72 = .ok (.ifCond .eq 10, 3) := by decide +kernel
theorem dX12_naming_75 : decode cX12_naming 75 = .ok (.iload_n 3, 1) := by decide +kernel
theorem dX12_naming_76 : decode cX12_naming 76 = .ok (.iconst 1, 1) := by decide +kernel
theorem dX12_naming_77 : decode cX12_naming 77 = .ok (.iload 4, 2) := by decide +kernel
theorem dX12_naming_79 : decode cX12_naming 79 = .ok (.ishl, 1) := by decide +kernel
theorem dX12_naming_80 : decode cX12_naming 80 = .ok (.ior, 1) := by decide +kernel
theorem dX12_naming_81 : decode cX12_naming 81 = .ok (.istore_n 3, 1) := by decide +kernel
theorem dX12_naming_82 : decode cX12_naming 82 = .ok (.iinc 4 1, 3) := by decide +kernel
theorem dX12_naming_85 : decode cX12_naming 85 = .ok (.goto (-56), 3) := by decide +kernel
theorem dX12_naming_88 : decode cX12_naming 88 = .ok (.iload_n 3, 1) := by decide +kernel
theorem dX12_naming_89 : decode cX12_naming 89 = .ok (.ireturn, 1) := by decide +kernel
theorem dX12_sees_0 : decode cX12_sees 0 = .ok (.aload_n 0, 1) := by decide +kernel
theorem dX12_sees_1 : decode cX12_sees 1 = .ok (.getfield 26, 3) := by decide +kernel
theorem dX12_sees_4 : decode cX12_sees 4 = .ok (.iload_n 1, 1) := by decide +kernel
theorem dX12_sees_5 : decode cX12_sees 5 = .ok (.invokevirtual 101, 3) := by decide +kernel
theorem dX12_sees_8 : decode cX12_sees 8 = .ok (.ifCond .eq 21, 3) := by decide +kernel
theorem dX12_sees_11 : decode cX12_sees 11 = .ok (.aload_n 0, 1) := by decide +kernel
theorem dX12_sees_12 : decode cX12_sees 12 = .ok (.getfield 26, 3) := by decide +kernel
theorem dX12_sees_15 : decode cX12_sees 15 = .ok (.iload_n 2, 1) := by decide +kernel
theorem dX12_sees_16 : decode cX12_sees 16 = .ok (.invokevirtual 143, 3) := by decide +kernel
theorem dX12_sees_19 : decode cX12_sees 19 = .ok (.ifCond .eq 10, 3) := by decide +kernel
theorem dX12_sees_22 : decode cX12_sees 22 = .ok (.iload_n 3, 1) := by decide +kernel
theorem dX12_sees_23 : decode cX12_sees 23 = .ok (.invokestatic 284, 3) := by decide +kernel
theorem dX12_sees_26 : decode cX12_sees 26 = .ok (.ifCond .ne 5, 3) := by decide +kernel
theorem dX12_sees_29 : decode cX12_sees 29 = .ok (.iconst (-1), 1) := by decide +kernel
theorem dX12_sees_30 : decode cX12_sees 30 = .ok (.ireturn, 1) := by decide +kernel
theorem dX12_sees_31 : decode cX12_sees 31 = .ok (.aload_n 0, 1) := by decide +kernel
theorem dX12_sees_32 : decode cX12_sees 32 = .ok (.getfield 26, 3) := by decide +kernel
theorem dX12_sees_35 : decode cX12_sees 35 = .ok (.getfield 112, 3) := by decide +kernel
theorem dX12_sees_38 : decode cX12_sees 38 = .ok (.iload_n 1, 1) := by decide +kernel
theorem dX12_sees_39 : decode cX12_sees 39 = .ok (.aaload, 1) := by decide +kernel
theorem dX12_sees_40 : decode cX12_sees 40 = .ok (.iload_n 3, 1) := by decide +kernel
theorem dX12_sees_41 : decode cX12_sees 41 = .ok (.invokevirtual 347, 3) := by decide +kernel
theorem dX12_sees_44 : decode cX12_sees 44 = .ok (.ifCond .ne 5, 3) := by decide +kernel
theorem dX12_sees_47 : decode cX12_sees 47 = .ok (.iconst 0, 1) := by decide +kernel
theorem dX12_sees_48 : decode cX12_sees 48 = .ok (.ireturn, 1) := by decide +kernel
theorem dX12_sees_49 : decode cX12_sees 49 = .ok (.aload_n 0, 1) := by decide +kernel
theorem dX12_sees_50 : decode cX12_sees 50 = .ok (.getfield 26, 3) := by decide +kernel
theorem dX12_sees_53 : decode cX12_sees 53 = .ok (.getfield 148, 3) := by decide +kernel
theorem dX12_sees_56 : decode cX12_sees 56 = .ok (.iload_n 2, 1) := by decide +kernel
theorem dX12_sees_57 : decode cX12_sees 57 = .ok (.aaload, 1) := by decide +kernel
theorem dX12_sees_58 : decode cX12_sees 58 = .ok (.astore 4, 2) := by decide +kernel
theorem dX12_sees_60 : decode cX12_sees 60 = .ok (.aload_n 0, 1) := by decide +kernel
theorem dX12_sees_61 : decode cX12_sees 61 = .ok (.getfield 26, 3) := by decide +kernel
theorem dX12_sees_64 : decode cX12_sees 64 = .ok (.getfield 112, 3) := by decide +kernel
theorem dX12_sees_67 : decode cX12_sees 67 = .ok (.aload 4, 2) := by decide +kernel
theorem dX12_sees_69 : decode cX12_sees 69 = .ok (.getfield 152, 3) := by decide +kernel
theorem dX12_sees_72 : decode cX12_sees 72 = .ok (.aaload, 1) := by decide +kernel
theorem dX12_sees_73 : decode cX12_sees 73 = .ok (.iload_n 3, 1) := by decide +kernel
theorem dX12_sees_74 : decode cX12_sees 74 = .ok (.invokevirtual 347, 3) := by decide +kernel
theorem dX12_sees_77 : decode cX12_sees 77 = .ok (.ifCond .eq 21, 3) := by decide +kernel
theorem dX12_sees_80 : decode cX12_sees 80 = .ok (.iload_n 1, 1) := by decide +kernel
theorem dX12_sees_81 : decode cX12_sees 81 = .ok (.aload 4, 2) := by decide +kernel
theorem dX12_sees_83 : decode cX12_sees 83 = .ok (.getfield 152, 3) := by decide +kernel
theorem dX12_sees_86 : decode cX12_sees 86 = .ok (.if_icmp .ne 7, 3) := by decide +kernel
theorem dX12_sees_89 : decode cX12_sees 89 = .ok (.iconst 1, 1) := by decide +kernel
theorem dX12_sees_90 : decode cX12_sees 90 = .ok (.goto 4, 3) := by decide +kernel
theorem dX12_sees_93 : decode cX12_sees 93 = .ok (.iconst 0, 1) := by decide +kernel
theorem dX12_sees_94 : decode cX12_sees 94 = .ok (.invokestatic 170, 3) := by decide +kernel
theorem dX12_sees_97 : decode cX12_sees 97 = .ok (.ireturn, 1) := by decide +kernel
theorem dX12_sees_98 : decode cX12_sees 98 = .ok (.aload_n 0, 1) := by decide +kernel
theorem dX12_sees_99 : decode cX12_sees 99 = .ok (.getfield 26, 3) := by decide +kernel
theorem dX12_sees_102 : decode cX12_sees 102 = .ok (.aload 4, 2) := by decide +kernel
theorem dX12_sees_104 : decode cX12_sees 104 = .ok (.getfield 152, 3) := by decide +kernel
theorem dX12_sees_107 : decode cX12_sees 107 = .ok (.invokevirtual 332, 3) := by decide +kernel
theorem dX12_sees_110 : decode cX12_sees 110 = .ok (.iload_n 1, 1) := by decide +kernel
theorem dX12_sees_111 : decode cX12_sees 111 = .ok (.ishr, 1) := by decide +kernel
theorem dX12_sees_112 : decode cX12_sees 112 = .ok (.iconst 1, 1) := by decide +kernel
theorem dX12_sees_113 : decode cX12_sees 113 = .ok (.iand, 1) := by decide +kernel
theorem dX12_sees_114 : decode cX12_sees 114 = .ok (.ifCond .eq 7, 3) := by decide +kernel
theorem dX12_sees_117 : decode cX12_sees 117 = .ok (.iconst 1, 1) := by decide +kernel
theorem dX12_sees_118 : decode cX12_sees 118 = .ok (.goto 4, 3) := by decide +kernel
theorem dX12_sees_121 : decode cX12_sees 121 = .ok (.iconst 0, 1) := by decide +kernel
theorem dX12_sees_122 : decode cX12_sees 122 = .ok (.istore 5, 2) := by decide +kernel
theorem dX12_sees_124 : decode cX12_sees 124 = .ok (.iload 5, 2) := by decide +kernel
theorem dX12_sees_126 : decode cX12_sees 126 = .ok (.ifCond .ne 21, 3) := by decide +kernel
theorem dX12_sees_129 : decode cX12_sees 129 = .ok (.aload 4, 2) := by decide +kernel
theorem dX12_sees_131 : decode cX12_sees 131 = .ok (.iload_n 1, 1) := by decide +kernel
theorem dX12_sees_132 : decode cX12_sees 132 = .ok (.invokevirtual 281, 3) := by decide +kernel
theorem dX12_sees_135 : decode cX12_sees 135 = .ok (.ifCond .ne 12, 3) := by decide +kernel
theorem dX12_sees_138 : decode cX12_sees 138 = .ok (.aload 4, 2) := by decide +kernel
theorem dX12_sees_140 : decode cX12_sees 140 = .ok (.iload_n 1, 1) := by decide +kernel
theorem dX12_sees_141 : decode cX12_sees 141 = .ok (.invokevirtual 344, 3) := by decide +kernel
theorem dX12_sees_144 : decode cX12_sees 144 = .ok (.ifCond .eq 7, 3) := by decide +kernel
theorem dX12_sees_147 : decode cX12_sees 147 = .ok (.iconst 1, 1) := by decide +kernel
theorem dX12_sees_148 : decode cX12_sees 148 = .ok (.goto 4, 3) := by decide +kernel
theorem dX12_sees_151 : decode cX12_sees 151 = .ok (.iconst 0, 1) := by decide +kernel
theorem dX12_sees_152 : decode cX12_sees 152 = .ok (.invokestatic 170, 3) := by decide +kernel
theorem dX12_sees_155 : decode cX12_sees 155 = .ok (.ireturn, 1) := by decide +kernel
theorem dX12_has_0 : decode cX12_has 0 = .ok (.aload_n 0, 1) := by decide +kernel
theorem dX12_has_1 : decode cX12_has 1 = .ok (.iload_n 1, 1) := by decide +kernel
theorem dX12_has_2 : decode cX12_has 2 = .ok (.invokevirtual 350, 3) := by decide +kernel
theorem dX12_has_5 : decode cX12_has 5 = .ok (.ifCond .eq 32, 3) := by decide +kernel
theorem dX12_has_8 : decode cX12_has 8 = .ok (.aload_n 0, 1) := by decide +kernel
theorem dX12_has_9 : decode cX12_has 9 = .ok (.getfield 26, 3) := by decide +kernel
theorem dX12_has_12 : decode cX12_has 12 = .ok (.iload_n 2, 1) := by decide +kernel
theorem dX12_has_13 : decode cX12_has 13 = .ok (.invokevirtual 189, 3) := by decide +kernel
theorem dX12_has_16 : decode cX12_has 16 = .ok (.ifCond .eq 21, 3) := by decide +kernel
theorem dX12_has_19 : decode cX12_has 19 = .ok (.iload_n 3, 1) := by decide +kernel
theorem dX12_has_20 : decode cX12_has 20 = .ok (.invokestatic 284, 3) := by decide +kernel
theorem dX12_has_23 : decode cX12_has 23 = .ok (.ifCond .eq 14, 3) := by decide +kernel
theorem dX12_has_26 : decode cX12_has 26 = .ok (.iload 4, 2) := by decide +kernel
theorem dX12_has_28 : decode cX12_has 28 = .ok (.ifCond .lt 9, 3) := by decide +kernel
theorem dX12_has_31 : decode cX12_has 31 = .ok (.iload 4, 2) := by decide +kernel
theorem dX12_has_33 : decode cX12_has 33 = .ok (.iconst 1, 1) := by decide +kernel
theorem dX12_has_34 : decode cX12_has 34 = .ok (.if_icmp .le 7, 3) := by decide +kernel
theorem dX12_has_37 : decode cX12_has 37 = .ok (.ldc2_w 353, 3) := by decide +kernel
theorem dX12_has_40 : decode cX12_has 40 = .ok (.lreturn, 1) := by decide +kernel
theorem dX12_has_41 : decode cX12_has 41 = .ok (.aload_n 0, 1) := by decide +kernel
theorem dX12_has_42 : decode cX12_has 42 = .ok (.getfield 68, 3) := by decide +kernel
theorem dX12_has_45 : decode cX12_has 45 = .ok (.iload_n 2, 1) := by decide +kernel
theorem dX12_has_46 : decode cX12_has 46 = .ok (.iload_n 3, 1) := by decide +kernel
theorem dX12_has_47 : decode cX12_has 47 = .ok (.invokevirtual 355, 3) := by decide +kernel
theorem dX12_has_50 : decode cX12_has 50 = .ok (.aload_n 0, 1) := by decide +kernel
theorem dX12_has_51 : decode cX12_has 51 = .ok (.getfield 68, 3) := by decide +kernel
theorem dX12_has_54 : decode cX12_has 54 = .ok (.getfield 358, 3) := by decide +kernel
theorem dX12_has_57 : decode cX12_has 57 = .ok (.iload_n 1, 1) := by decide +kernel
theorem dX12_has_58 : decode cX12_has 58 = .ok (.invokestatic 362, 3) := by decide +kernel
theorem dX12_has_61 : decode cX12_has 61 = .ok (.laload, 1) := by decide +kernel
theorem dX12_has_62 : decode cX12_has 62 = .ok (.lstore 5, 2) := by decide +kernel
theorem dX12_has_64 : decode cX12_has 64 = .ok (.aload_n 0, 1) := by decide +kernel
theorem dX12_has_65 : decode cX12_has 65 = .ok (.getfield 68, 3) := by decide +kernel
theorem dX12_has_68 : decode cX12_has 68 = .ok (.getfield 365, 3) := by decide +kernel
theorem dX12_has_71 : decode cX12_has 71 = .ok (.lload 5, 2) := by decide +kernel
theorem dX12_has_73 : decode cX12_has 73 = .ok (.invokestatic 369, 3) := by decide +kernel
theorem dX12_has_76 : decode cX12_has 76 = .ok (.lstore 7, 2) := by decide +kernel
theorem dX12_has_78 : decode cX12_has 78 = .ok (.lload 7, 2) := by decide +kernel
theorem dX12_has_80 : decode cX12_has 80 = .ok (.lconst 0, 1) := by decide +kernel
theorem dX12_has_81 : decode cX12_has 81 = .ok (.lcmp, 1) := by decide +kernel
theorem dX12_has_82 : decode cX12_has 82 = .ok (.ifCond .gt 7, 3) := by decide +kernel
theorem dX12_has_85 : decode cX12_has 85 = .ok (.ldc2_w 353, 3) := by decide +kernel
theorem dX12_has_88 : decode cX12_has 88 = .ok (.lreturn, 1) := by decide +kernel
theorem dX12_has_89 : decode cX12_has 89 = .ok (.iload 4, 2) := by decide +kernel
theorem dX12_has_91 : decode cX12_has 91 = .ok (.ifCond .ne 8, 3) := by decide +kernel
theorem dX12_has_94 : decode cX12_has 94 = .ok (.lload 5, 2) := by decide +kernel
theorem dX12_has_96 : decode cX12_has 96 = .ok (.goto 10, 3) := by decide +kernel
theorem dX12_has_99 : decode cX12_has 99 = .ok (.aload_n 0, 1) := by decide +kernel
theorem dX12_has_100 : decode cX12_has 100 = .ok (.getfield 68, 3) := by decide +kernel
theorem dX12_has_103 : decode cX12_has 103 = .ok (.getfield 365, 3) := by decide +kernel
theorem dX12_has_106 : decode cX12_has 106 = .ok (.lload 7, 2) := by decide +kernel
theorem dX12_has_108 : decode cX12_has 108 = .ok (.ldiv, 1) := by decide +kernel
theorem dX12_has_109 : decode cX12_has 109 = .ok (.lreturn, 1) := by decide +kernel
theorem dX12_holders_0 : decode cX12_holders 0 = .ok (.aload_n 0, 1) := by decide +kernel
theorem dX12_holders_1 : decode cX12_holders 1 = .ok (.getfield 26, 3) := by decide +kernel
theorem dX12_holders_4 : decode cX12_holders 4 = .ok (.iload_n 1, 1) := by decide +kernel
theorem dX12_holders_5 : decode cX12_holders 5 = .ok (.invokevirtual 189, 3) := by decide +kernel
theorem dX12_holders_8 : decode cX12_holders 8 = .ok (.ifCond .eq 10, 3) := by decide +kernel
theorem dX12_holders_11 : decode cX12_holders 11 = .ok (.iload_n 2, 1) := by decide +kernel
theorem dX12_holders_12 : decode cX12_holders 12 = .ok (.invokestatic 284, 3) := by decide +kernel
theorem dX12_holders_15 : decode cX12_holders 15 = .ok (.ifCond .ne 5, 3) := by decide +kernel
theorem dX12_holders_18 : decode cX12_holders 18 = .ok (.iconst (-1), 1) := by decide +kernel
theorem dX12_holders_19 : decode cX12_holders 19 = .ok (.ireturn, 1) := by decide +kernel
theorem dX12_holders_20 : decode cX12_holders 20 = .ok (.aload_n 0, 1) := by decide +kernel
theorem dX12_holders_21 : decode cX12_holders 21 = .ok (.getfield 68, 3) := by decide +kernel
theorem dX12_holders_24 : decode cX12_holders 24 = .ok (.iload_n 1, 1) := by decide +kernel
theorem dX12_holders_25 : decode cX12_holders 25 = .ok (.iload_n 2, 1) := by decide +kernel
theorem dX12_holders_26 : decode cX12_holders 26 = .ok (.invokevirtual 373, 3) := by decide +kernel
theorem dX12_holders_29 : decode cX12_holders 29 = .ok (.ireturn, 1) := by decide +kernel
theorem dX12_wealth_0 : decode cX12_wealth 0 = .ok (.aload_n 0, 1) := by decide +kernel
theorem dX12_wealth_1 : decode cX12_wealth 1 = .ok (.iload_n 1, 1) := by decide +kernel
theorem dX12_wealth_2 : decode cX12_wealth 2 = .ok (.invokevirtual 350, 3) := by decide +kernel
theorem dX12_wealth_5 : decode cX12_wealth 5 = .ok (.ifCond .ne 6, 3) := by decide +kernel
theorem dX12_wealth_8 : decode cX12_wealth 8 = .ok (.bipush (-2), 2) := by decide +kernel
theorem dX12_wealth_10 : decode cX12_wealth 10 = .ok (.ireturn, 1) := by decide +kernel
theorem dX12_wealth_11 : decode cX12_wealth 11 = .ok (.aload_n 0, 1) := by decide +kernel
theorem dX12_wealth_12 : decode cX12_wealth 12 = .ok (.getfield 68, 3) := by decide +kernel
theorem dX12_wealth_15 : decode cX12_wealth 15 = .ok (.iload_n 1, 1) := by decide +kernel
theorem dX12_wealth_16 : decode cX12_wealth 16 = .ok (.invokestatic 362, 3) := by decide +kernel
theorem dX12_wealth_19 : decode cX12_wealth 19 = .ok (.invokevirtual 376, 3) := by decide +kernel
theorem dX12_wealth_22 : decode cX12_wealth 22 = .ok (.ireturn, 1) := by decide +kernel
theorem dX12_ever_0 : decode cX12_ever 0 = .ok (.aload_n 0, 1) := by decide +kernel
theorem dX12_ever_1 : decode cX12_ever 1 = .ok (.getfield 26, 3) := by decide +kernel
theorem dX12_ever_4 : decode cX12_ever 4 = .ok (.iload_n 1, 1) := by decide +kernel
theorem dX12_ever_5 : decode cX12_ever 5 = .ok (.invokevirtual 101, 3) := by decide +kernel
theorem dX12_ever_8 : decode cX12_ever 8 = .ok (.ifCond .ne 5, 3) := by decide +kernel
theorem dX12_ever_11 : decode cX12_ever 11 = .ok (.iconst (-1), 1) := by decide +kernel
theorem dX12_ever_12 : decode cX12_ever 12 = .ok (.ireturn, 1) := by decide +kernel
theorem dX12_ever_13 : decode cX12_ever 13 = .ok (.iconst 0, 1) := by decide +kernel
theorem dX12_ever_14 : decode cX12_ever 14 = .ok (.istore_n 2, 1) := by decide +kernel
theorem dX12_ever_15 : decode cX12_ever 15 = .ok (.iconst 0, 1) := by decide +kernel
theorem dX12_ever_16 : decode cX12_ever 16 = .ok (.istore_n 3, 1) := by decide +kernel
theorem dX12_ever_17 : decode cX12_ever 17 = .ok (.iload_n 3, 1) := by decide +kernel
theorem dX12_ever_18 : decode cX12_ever 18 = .ok (.aload_n 0, 1) := by decide +kernel
theorem dX12_ever_19 : decode cX12_ever 19 = .ok (.getfield 26, 3) := by decide +kernel
theorem dX12_ever_22 : decode cX12_ever 22 = .ok (.getfield 245, 3) := by decide +kernel
theorem dX12_ever_25 : decode cX12_ever 25 = .ok (.if_icmp .ge 36, 3) := by decide +kernel
theorem dX12_ever_28 : decode cX12_ever 28 = .ok (.aload_n 0, 1) := by decide +kernel
theorem dX12_ever_29 : decode cX12_ever 29 = .ok (.getfield 68, 3) := by decide +kernel
theorem dX12_ever_32 : decode cX12_ever 32 = .ok (.iload_n 3, 1) := by decide +kernel
theorem dX12_ever_33 : decode cX12_ever 33 = .ok (.sipush 9999, 3) := by decide +kernel
theorem dX12_ever_36 : decode cX12_ever 36 = .ok (.invokevirtual 355, 3) := by decide +kernel
theorem dX12_ever_39 : decode cX12_ever 39 = .ok (.iload_n 2, 1) := by decide +kernel
theorem dX12_ever_40 : decode cX12_ever 40 = .ok (.aload_n 0, 1) := by decide +kernel
theorem dX12_ever_41 : decode cX12_ever 41 = .ok (.getfield 68, 3) := by decide +kernel
theorem dX12_ever_44 : decode cX12_ever 44 = .ok (.getfield 379, 3) := by decide +kernel
theorem dX12_ever_47 : decode cX12_ever 47 = .ok (.iload_n 1, 1) := by decide +kernel
theorem dX12_ever_48 : decode cX12_ever 48 = .ok (.ishr, 1) := by decide +kernel
theorem dX12_ever_49 : decode cX12_ever 49 = .ok (.iconst 1, 1) := by decide +kernel
theorem dX12_ever_50 : decode cX12_ever 50 = .ok (.iand, 1) := by decide +kernel
theorem dX12_ever_51 : decode cX12_ever 51 = .ok (.iload_n 3, 1) := by decide +kernel
theorem dX12_ever_52 : decode cX12_ever 52 = .ok (.ishl, 1) := by decide +kernel
theorem dX12_ever_53 : decode cX12_ever 53 = .ok (.ior, 1) := by decide +kernel
theorem dX12_ever_54 : decode cX12_ever 54 = .ok (.istore_n 2, 1) := by decide +kernel
theorem dX12_ever_55 : decode cX12_ever 55 = .ok (.iinc 3 1, 3) := by decide +kernel
theorem dX12_ever_58 : decode cX12_ever 58 = .ok (.goto (-41), 3) := by decide +kernel
theorem dX12_ever_61 : decode cX12_ever 61 = .ok (.iload_n 2, 1) := by decide +kernel
theorem dX12_ever_62 : decode cX12_ever 62 = .ok (.ireturn, 1) := by decide +kernel
theorem dX12_death_0 : decode cX12_death 0 = .ok (.iload_n 1, 1) := by decide +kernel
theorem dX12_death_1 : decode cX12_death 1 = .ok (.ifCond .lt 12, 3) := by decide +kernel
theorem dX12_death_4 : decode cX12_death 4 = .ok (.iload_n 2, 1) := by decide +kernel
theorem dX12_death_5 : decode cX12_death 5 = .ok (.ifCond .lt 8, 3) := by decide +kernel
theorem dX12_death_8 : decode cX12_death 8 = .ok (.iload_n 2, 1) := by decide +kernel
theorem dX12_death_9 : decode cX12_death 9 = .ok (.iconst 2, 1) := by decide +kernel
theorem dX12_death_10 : decode cX12_death 10 = .ok (.if_icmp .le 5, 3) := by decide +kernel
theorem dX12_death_13 : decode cX12_death 13 = .ok (.iconst (-1), 1) := by decide +kernel
theorem dX12_death_14 : decode cX12_death 14 = .ok (.ireturn, 1) := by decide +kernel
theorem dX12_death_15 : decode cX12_death 15 = .ok (.aload_n 0, 1) := by decide +kernel
theorem dX12_death_16 : decode cX12_death 16 = .ok (.getfield 26, 3) := by decide +kernel
theorem dX12_death_19 : decode cX12_death 19 = .ok (.iconst (-1), 1) := by decide +kernel
theorem dX12_death_20 : decode cX12_death 20 = .ok (.invokevirtual 382, 3) := by decide +kernel
theorem dX12_death_23 : decode cX12_death 23 = .ok (.istore_n 3, 1) := by decide +kernel
theorem dX12_death_24 : decode cX12_death 24 = .ok (.iconst 0, 1) := by decide +kernel
theorem dX12_death_25 : decode cX12_death 25 = .ok (.istore 4, 2) := by decide +kernel
theorem dX12_death_27 : decode cX12_death 27 = .ok (.iload 4, 2) := by decide +kernel
theorem dX12_death_29 : decode cX12_death 29 = .ok (.iload_n 1, 1) := by decide +kernel
theorem dX12_death_30 : decode cX12_death 30 = .ok (.if_icmp .ge 23, 3) := by decide +kernel
theorem dX12_death_33 : decode cX12_death 33 = .ok (.iload_n 3, 1) := by decide +kernel
theorem dX12_death_34 : decode cX12_death 34 = .ok (.iconst (-1), 1) := by decide +kernel
theorem dX12_death_35 : decode cX12_death 35 = .ok (.if_icmp .eq 18, 3) := by decide +kernel
theorem dX12_death_38 : decode cX12_death 38 = .ok (.aload_n 0, 1) := by decide +kernel
theorem dX12_death_39 : decode cX12_death 39 = .ok (.getfield 26, 3) := by decide +kernel
theorem dX12_death_42 : decode cX12_death 42 = .ok (.iload_n 3, 1) := by decide +kernel
theorem dX12_death_43 : decode cX12_death 43 = .ok (.invokevirtual 382, 3) := by decide +kernel
theorem dX12_death_46 : decode cX12_death 46 = .ok (.istore_n 3, 1) := by decide +kernel
theorem dX12_death_47 : decode cX12_death 47 = .ok (.iinc 4 1, 3) := by decide +kernel
theorem dX12_death_50 : decode cX12_death 50 = .ok (.goto (-23), 3) := by decide +kernel
theorem dX12_death_53 : decode cX12_death 53 = .ok (.aload_n 0, 1) := by decide +kernel
theorem dX12_death_54 : decode cX12_death 54 = .ok (.getfield 26, 3) := by decide +kernel
theorem dX12_death_57 : decode cX12_death 57 = .ok (.iload_n 3, 1) := by decide +kernel
theorem dX12_death_58 : decode cX12_death 58 = .ok (.invokevirtual 101, 3) := by decide +kernel
theorem dX12_death_61 : decode cX12_death 61 = .ok (.ifCond .ne 6, 3) := by decide +kernel
theorem dX12_death_64 : decode cX12_death 64 = .ok (.bipush (-2), 2) := by decide +kernel
theorem dX12_death_66 : decode cX12_death 66 = .ok (.ireturn, 1) := by decide +kernel
theorem dX12_death_67 : decode cX12_death 67 = .ok (.iload_n 2, 1) := by decide +kernel
theorem dX12_death_68 : decode cX12_death 68 = .ok (.lookupswitch 43 #[(0, 28), (1, 30)], 28) := by decide +kernel
theorem dX12_death_96 : decode cX12_death 96 = .ok (.iload_n 3, 1) := by decide +kernel
theorem dX12_death_97 : decode cX12_death 97 = .ok (.ireturn, 1) := by decide +kernel
theorem dX12_death_98 : decode cX12_death 98 = .ok (.aload_n 0, 1) := by decide +kernel
theorem dX12_death_99 : decode cX12_death 99 = .ok (.getfield 26, 3) := by decide +kernel
theorem dX12_death_102 : decode cX12_death 102 = .ok (.getfield 112, 3) := by decide +kernel
theorem dX12_death_105 : decode cX12_death 105 = .ok (.iload_n 3, 1) := by decide +kernel
theorem dX12_death_106 : decode cX12_death 106 = .ok (.aaload, 1) := by decide +kernel
theorem dX12_death_107 : decode cX12_death 107 = .ok (.getfield 121, 3) := by decide +kernel
theorem dX12_death_110 : decode cX12_death 110 = .ok (.ireturn, 1) := by decide +kernel
theorem dX12_death_111 : decode cX12_death 111 = .ok (.aload_n 0, 1) := by decide +kernel
theorem dX12_death_112 : decode cX12_death 112 = .ok (.getfield 68, 3) := by decide +kernel
theorem dX12_death_115 : decode cX12_death 115 = .ok (.iload_n 3, 1) := by decide +kernel
theorem dX12_death_116 : decode cX12_death 116 = .ok (.invokevirtual 385, 3) := by decide +kernel
theorem dX12_death_119 : decode cX12_death 119 = .ok (.ireturn, 1) := by decide +kernel
theorem dX12_moves_0 : decode cX12_moves 0 = .ok (.aload_n 0, 1) := by decide +kernel
theorem dX12_moves_1 : decode cX12_moves 1 = .ok (.getfield 26, 3) := by decide +kernel
theorem dX12_moves_4 : decode cX12_moves 4 = .ok (.iload_n 1, 1) := by decide +kernel
theorem dX12_moves_5 : decode cX12_moves 5 = .ok (.invokevirtual 189, 3) := by decide +kernel
theorem dX12_moves_8 : decode cX12_moves 8 = .ok (.ifCond .eq 12, 3) := by decide +kernel
theorem dX12_moves_11 : decode cX12_moves 11 = .ok (.iload_n 2, 1) := by decide +kernel
theorem dX12_moves_12 : decode cX12_moves 12 = .ok (.ifCond .lt 8, 3) := by decide +kernel
theorem dX12_moves_15 : decode cX12_moves 15 = .ok (.iload_n 2, 1) := by decide +kernel
theorem dX12_moves_16 : decode cX12_moves 16 = .ok (.iconst 1, 1) := by decide +kernel
theorem dX12_moves_17 : decode cX12_moves 17 = .ok (.if_icmp .le 5, 3) := by decide +kernel
theorem dX12_moves_20 : decode cX12_moves 20 = .ok (.iconst (-1), 1) := by decide +kernel
theorem dX12_moves_21 : decode cX12_moves 21 = .ok (.ireturn, 1) := by decide +kernel
theorem dX12_moves_22 : decode cX12_moves 22 = .ok (.aload_n 0, 1) := by decide +kernel
theorem dX12_moves_23 : decode cX12_moves 23 = .ok (.getfield 68, 3) := by decide +kernel
theorem dX12_moves_26 : decode cX12_moves 26 = .ok (.iload_n 1, 1) := by decide +kernel
theorem dX12_moves_27 : decode cX12_moves 27 = .ok (.sipush 9999, 3) := by decide +kernel
theorem dX12_moves_30 : decode cX12_moves 30 = .ok (.invokevirtual 355, 3) := by decide +kernel
theorem dX12_moves_33 : decode cX12_moves 33 = .ok (.iload_n 2, 1) := by decide +kernel
theorem dX12_moves_34 : decode cX12_moves 34 = .ok (.ifCond .ne 13, 3) := by decide +kernel
theorem dX12_moves_37 : decode cX12_moves 37 = .ok (.aload_n 0, 1) := by decide +kernel
theorem dX12_moves_38 : decode cX12_moves 38 = .ok (.getfield 68, 3) := by decide +kernel
theorem dX12_moves_41 : decode cX12_moves 41 = .ok (.getfield 388, 3) := by decide +kernel
theorem dX12_moves_44 : decode cX12_moves 44 = .ok (.goto 13, 3) := by decide +kernel
theorem dX12_moves_47 : decode cX12_moves 47 = .ok (.aload_n 0, 1) := by decide +kernel
theorem dX12_moves_48 : decode cX12_moves 48 = .ok (.getfield 68, 3) := by decide +kernel
theorem dX12_moves_51 : decode cX12_moves 51 = .ok (.getfield 391, 3) := by decide +kernel
theorem dX12_moves_54 : decode cX12_moves 54 = .ok (.invokestatic 124, 3) := by decide +kernel
theorem dX12_moves_57 : decode cX12_moves 57 = .ok (.ireturn, 1) := by decide +kernel
theorem dX12_kin_0 : decode cX12_kin 0 = .ok (.aload_n 0, 1) := by decide +kernel
theorem dX12_kin_1 : decode cX12_kin 1 = .ok (.getfield 26, 3) := by decide +kernel
theorem dX12_kin_4 : decode cX12_kin 4 = .ok (.iload_n 1, 1) := by decide +kernel
theorem dX12_kin_5 : decode cX12_kin 5 = .ok (.invokevirtual 101, 3) := by decide +kernel
theorem dX12_kin_8 : decode cX12_kin 8 = .ok (.ifCond .eq 14, 3) := by decide +kernel
theorem dX12_kin_11 : decode cX12_kin 11 = .ok (.aload_n 0, 1) := by decide +kernel
theorem dX12_kin_12 : decode cX12_kin 12 = .ok (.getfield 26, 3) := by decide +kernel
theorem dX12_kin_15 : decode cX12_kin 15 = .ok (.iload_n 2, 1) := by decide +kernel
theorem dX12_kin_16 : decode cX12_kin 16 = .ok (.invokevirtual 101, 3) := by decide +kernel
theorem dX12_kin_19 : decode cX12_kin 19 = .ok (.ifCond .ne 5, 3) := by decide +kernel
theorem dX12_kin_22 : decode cX12_kin 22 = .ok (.iconst (-1), 1) := by decide +kernel
theorem dX12_kin_23 : decode cX12_kin 23 = .ok (.ireturn, 1) := by decide +kernel
theorem dX12_kin_24 : decode cX12_kin 24 = .ok (.iconst 1, 1) := by decide +kernel
theorem dX12_kin_25 : decode cX12_kin 25 = .ok (.iload_n 1, 1) := by decide +kernel
theorem dX12_kin_26 : decode cX12_kin 26 = .ok (.ishl, 1) := by decide +kernel
theorem dX12_kin_27 : decode cX12_kin 27 = .ok (.istore_n 3, 1) := by decide +kernel
theorem dX12_kin_28 : decode cX12_kin 28 = .ok (.iconst 0, 1) := by decide +kernel
theorem dX12_kin_29 : decode cX12_kin 29 = .ok (.istore 4, 2) := by decide +kernel
theorem dX12_kin_31 : decode cX12_kin 31 = .ok (.iload 4, 2) := by decide +kernel
theorem dX12_kin_33 : decode cX12_kin 33 = .ok (.bipush 10, 2) := by decide +kernel
theorem dX12_kin_35 : decode cX12_kin 35 = .ok (.if_icmp .ge 31, 3) := by decide +kernel
theorem dX12_kin_38 : decode cX12_kin 38 = .ok (.iload_n 3, 1) := by decide +kernel
theorem dX12_kin_39 : decode cX12_kin 39 = .ok (.iload_n 2, 1) := by decide +kernel
theorem dX12_kin_40 : decode cX12_kin 40 = .ok (.ishr, 1) := by decide +kernel
theorem dX12_kin_41 : decode cX12_kin 41 = .ok (.iconst 1, 1) := by decide +kernel
theorem dX12_kin_42 : decode cX12_kin 42 = .ok (.iand, 1) := by decide +kernel
theorem dX12_kin_43 : decode cX12_kin 43 = .ok (.ifCond .eq 6, 3) := by decide +kernel
theorem dX12_kin_46 : decode cX12_kin 46 = .ok (.iload 4, 2) := by decide +kernel
theorem dX12_kin_48 : decode cX12_kin 48 = .ok (.ireturn, 1) := by decide +kernel
theorem dX12_kin_49 : decode cX12_kin 49 = .ok (.iload_n 3, 1) := by decide +kernel
theorem dX12_kin_50 : decode cX12_kin 50 = .ok (.aload_n 0, 1) := by decide +kernel
theorem dX12_kin_51 : decode cX12_kin 51 = .ok (.getfield 26, 3) := by decide +kernel
theorem dX12_kin_54 : decode cX12_kin 54 = .ok (.iload_n 3, 1) := by decide +kernel
theorem dX12_kin_55 : decode cX12_kin 55 = .ok (.invokevirtual 394, 3) := by decide +kernel
theorem dX12_kin_58 : decode cX12_kin 58 = .ok (.ior, 1) := by decide +kernel
theorem dX12_kin_59 : decode cX12_kin 59 = .ok (.istore_n 3, 1) := by decide +kernel
theorem dX12_kin_60 : decode cX12_kin 60 = .ok (.iinc 4 1, 3) := by decide +kernel
theorem dX12_kin_63 : decode cX12_kin 63 = .ok (.goto (-32), 3) := by decide +kernel
theorem dX12_kin_66 : decode cX12_kin 66 = .ok (.bipush (-2), 2) := by decide +kernel
theorem dX12_kin_68 : decode cX12_kin 68 = .ok (.ireturn, 1) := by decide +kernel
theorem dX12_gain_0 : decode cX12_gain 0 = .ok (.aload_n 0, 1) := by decide +kernel
theorem dX12_gain_1 : decode cX12_gain 1 = .ok (.getfield 26, 3) := by decide +kernel
theorem dX12_gain_4 : decode cX12_gain 4 = .ok (.iload_n 1, 1) := by decide +kernel
theorem dX12_gain_5 : decode cX12_gain 5 = .ok (.invokevirtual 101, 3) := by decide +kernel
theorem dX12_gain_8 : decode cX12_gain 8 = .ok (.ifCond .eq 14, 3) := by decide +kernel
theorem dX12_gain_11 : decode cX12_gain 11 = .ok (.aload_n 0, 1) := by decide +kernel
theorem dX12_gain_12 : decode cX12_gain 12 = .ok (.getfield 26, 3) := by decide +kernel
theorem dX12_gain_15 : decode cX12_gain 15 = .ok (.iload_n 2, 1) := by decide +kernel
theorem dX12_gain_16 : decode cX12_gain 16 = .ok (.invokevirtual 143, 3) := by decide +kernel
theorem dX12_gain_19 : decode cX12_gain 19 = .ok (.ifCond .ne 7, 3) := by decide +kernel
theorem dX12_gain_22 : decode cX12_gain 22 = .ok (.ldc_w 397, 3) := by decide +kernel
theorem dX12_gain_25 : decode cX12_gain 25 = .ok (.ireturn, 1) := by decide +kernel
theorem dX12_gain_26 : decode cX12_gain 26 = .ok (.aload_n 0, 1) := by decide +kernel
theorem dX12_gain_27 : decode cX12_gain 27 = .ok (.getfield 68, 3) := by decide +kernel
theorem dX12_gain_30 : decode cX12_gain 30 = .ok (.iload_n 1, 1) := by decide +kernel
theorem dX12_gain_31 : decode cX12_gain 31 = .ok (.invokevirtual 376, 3) := by decide +kernel
theorem dX12_gain_34 : decode cX12_gain 34 = .ok (.aload_n 0, 1) := by decide +kernel
theorem dX12_gain_35 : decode cX12_gain 35 = .ok (.getfield 68, 3) := by decide +kernel
theorem dX12_gain_38 : decode cX12_gain 38 = .ok (.iload_n 1, 1) := by decide +kernel
theorem dX12_gain_39 : decode cX12_gain 39 = .ok (.iload_n 2, 1) := by decide +kernel
theorem dX12_gain_40 : decode cX12_gain 40 = .ok (.invokevirtual 398, 3) := by decide +kernel
theorem dX12_gain_43 : decode cX12_gain 43 = .ok (.isub, 1) := by decide +kernel
theorem dX12_gain_44 : decode cX12_gain 44 = .ok (.ireturn, 1) := by decide +kernel
theorem dX12_against_0 : decode cX12_against 0 = .ok (.aload_n 0, 1) := by decide +kernel
theorem dX12_against_1 : decode cX12_against 1 = .ok (.getfield 26, 3) := by decide +kernel
theorem dX12_against_4 : decode cX12_against 4 = .ok (.iload_n 1, 1) := by decide +kernel
theorem dX12_against_5 : decode cX12_against 5 = .ok (.invokevirtual 101, 3) := by decide +kernel
theorem dX12_against_8 : decode cX12_against 8 = .ok (.ifCond .eq 12, 3) := by decide +kernel
theorem dX12_against_11 : decode cX12_against 11 = .ok (.iload_n 2, 1) := by decide +kernel
theorem dX12_against_12 : decode cX12_against 12 = .ok (.ifCond .lt 8, 3) := by decide +kernel
theorem dX12_against_15 : decode cX12_against 15 = .ok (.iload_n 2, 1) := by decide +kernel
theorem dX12_against_16 : decode cX12_against 16 = .ok (.iconst 1, 1) := by decide +kernel
theorem dX12_against_17 : decode cX12_against 17 = .ok (.if_icmp .le 5, 3) := by decide +kernel
theorem dX12_against_20 : decode cX12_against 20 = .ok (.iconst (-1), 1) := by decide +kernel
theorem dX12_against_21 : decode cX12_against 21 = .ok (.ireturn, 1) := by decide +kernel
theorem dX12_against_22 : decode cX12_against 22 = .ok (.aload_n 0, 1) := by decide +kernel
theorem dX12_against_23 : decode cX12_against 23 = .ok (.getfield 68, 3) := by decide +kernel
theorem dX12_against_26 : decode cX12_against 26 = .ok (.iload_n 1, 1) := by decide +kernel
theorem dX12_against_27 : decode cX12_against 27 = .ok (.invokevirtual 376, 3) := by decide +kernel
theorem dX12_against_30 : decode cX12_against 30 = .ok (.istore_n 3, 1) := by decide +kernel
theorem dX12_against_31 : decode cX12_against 31 = .ok (.bipush (-2), 2) := by decide +kernel
theorem dX12_against_33 : decode cX12_against 33 = .ok (.istore 4, 2) := by decide +kernel
theorem dX12_against_35 : decode cX12_against 35 = .ok (.iconst 0, 1) := by decide +kernel
theorem dX12_against_36 : decode cX12_against 36 = .ok (.istore 5, 2) := by decide +kernel
theorem dX12_against_38 : decode cX12_against 38 = .ok (.iconst 0, 1) := by decide +kernel
theorem dX12_against_39 : decode cX12_against 39 = .ok (.istore 6, 2) := by decide +kernel
theorem dX12_against_41 : decode cX12_against 41 = .ok (.iload 6, 2) := by decide +kernel
theorem dX12_against_43 : decode cX12_against 43 = .ok (.aload_n 0, 1) := by decide +kernel
theorem dX12_against_44 : decode cX12_against 44 = .ok (.getfield 26, 3) := by decide +kernel
theorem dX12_against_47 : decode cX12_against 47 = .ok (.getfield 248, 3) := by decide +kernel
theorem dX12_against_50 : decode cX12_against 50 = .ok (.if_icmp .ge 38, 3) := by decide +kernel
theorem dX12_against_53 : decode cX12_against 53 = .ok (.iload_n 3, 1) := by decide +kernel
theorem dX12_against_54 : decode cX12_against 54 = .ok (.aload_n 0, 1) := by decide +kernel
theorem dX12_against_55 : decode cX12_against 55 = .ok (.getfield 68, 3) := by decide +kernel
theorem dX12_against_58 : decode cX12_against 58 = .ok (.iload_n 1, 1) := by decide +kernel
theorem dX12_against_59 : decode cX12_against 59 = .ok (.iload 6, 2) := by decide +kernel
theorem dX12_against_61 : decode cX12_against 61 = .ok (.invokevirtual 398, 3) := by decide +kernel
theorem dX12_against_64 : decode cX12_against 64 = .ok (.isub, 1) := by decide +kernel
theorem dX12_against_65 : decode cX12_against 65 = .ok (.istore 7, 2) := by decide +kernel
theorem dX12_against_67 : decode cX12_against 67 = .ok (.iload 7, 2) := by decide +kernel
theorem dX12_against_69 : decode cX12_against 69 = .ok (.iload 5, 2) := by decide +kernel
theorem dX12_against_71 : decode cX12_against 71 = .ok (.if_icmp .ge 11, 3) := by decide +kernel
theorem dX12_against_74 : decode cX12_against 74 = .ok (.iload 7, 2) := by decide +kernel
theorem dX12_against_76 : decode cX12_against 76 = .ok (.istore 5, 2) := by decide +kernel
theorem dX12_against_78 : decode cX12_against 78 = .ok (.iload 6, 2) := by decide +kernel
theorem dX12_against_80 : decode cX12_against 80 = .ok (.istore 4, 2) := by decide +kernel
theorem dX12_against_82 : decode cX12_against 82 = .ok (.iinc 6 1, 3) := by decide +kernel
theorem dX12_against_85 : decode cX12_against 85 = .ok (.goto (-44), 3) := by decide +kernel
theorem dX12_against_88 : decode cX12_against 88 = .ok (.iload_n 2, 1) := by decide +kernel
theorem dX12_against_89 : decode cX12_against 89 = .ok (.ifCond .eq 10, 3) := by decide +kernel
theorem dX12_against_92 : decode cX12_against 92 = .ok (.iload 4, 2) := by decide +kernel
theorem dX12_against_94 : decode cX12_against 94 = .ok (.bipush (-2), 2) := by decide +kernel
theorem dX12_against_96 : decode cX12_against 96 = .ok (.if_icmp .ne 8, 3) := by decide +kernel
theorem dX12_against_99 : decode cX12_against 99 = .ok (.iload 4, 2) := by decide +kernel
theorem dX12_against_101 : decode cX12_against 101 = .ok (.goto 5, 3) := by decide +kernel
theorem dX12_against_104 : decode cX12_against 104 = .ok (.iload 5, 2) := by decide +kernel
theorem dX12_against_106 : decode cX12_against 106 = .ok (.ireturn, 1) := by decide +kernel
theorem dX12_key_0 : decode cX12_key 0 = .ok (.iload_n 1, 1) := by decide +kernel
theorem dX12_key_1 : decode cX12_key 1 = .ok (.ifCond .lt 8, 3) := by decide +kernel
theorem dX12_key_4 : decode cX12_key 4 = .ok (.iload_n 1, 1) := by decide +kernel
theorem dX12_key_5 : decode cX12_key 5 = .ok (.iconst 1, 1) := by decide +kernel
theorem dX12_key_6 : decode cX12_key 6 = .ok (.if_icmp .le 5, 3) := by decide +kernel
theorem dX12_key_9 : decode cX12_key 9 = .ok (.iconst (-1), 1) := by decide +kernel
theorem dX12_key_10 : decode cX12_key 10 = .ok (.ireturn, 1) := by decide +kernel
theorem dX12_key_11 : decode cX12_key 11 = .ok (.bipush (-2), 2) := by decide +kernel
theorem dX12_key_13 : decode cX12_key 13 = .ok (.istore_n 2, 1) := by decide +kernel
theorem dX12_key_14 : decode cX12_key 14 = .ok (.bipush (-2), 2) := by decide +kernel
theorem dX12_key_16 : decode cX12_key 16 = .ok (.istore_n 3, 1) := by decide +kernel
theorem dX12_key_17 : decode cX12_key 17 = .ok (.iconst 0, 1) := by decide +kernel
theorem dX12_key_18 : decode cX12_key 18 = .ok (.istore 4, 2) := by decide +kernel
theorem dX12_key_20 : decode cX12_key 20 = .ok (.iload 4, 2) := by decide +kernel
theorem dX12_key_22 : decode cX12_key 22 = .ok (.aload_n 0, 1) := by decide +kernel
theorem dX12_key_23 : decode cX12_key 23 = .ok (.getfield 26, 3) := by decide +kernel
theorem dX12_key_26 : decode cX12_key 26 = .ok (.getfield 248, 3) := by decide +kernel
theorem dX12_key_29 : decode cX12_key 29 = .ok (.if_icmp .ge 32, 3) := by decide +kernel
theorem dX12_key_32 : decode cX12_key 32 = .ok (.aload_n 0, 1) := by decide +kernel
theorem dX12_key_33 : decode cX12_key 33 = .ok (.getfield 68, 3) := by decide +kernel
theorem dX12_key_36 : decode cX12_key 36 = .ok (.iload 4, 2) := by decide +kernel
theorem dX12_key_38 : decode cX12_key 38 = .ok (.invokevirtual 401, 3) := by decide +kernel
theorem dX12_key_41 : decode cX12_key 41 = .ok (.istore 5, 2) := by decide +kernel
theorem dX12_key_43 : decode cX12_key 43 = .ok (.iload 5, 2) := by decide +kernel
theorem dX12_key_45 : decode cX12_key 45 = .ok (.iload_n 3, 1) := by decide +kernel
theorem dX12_key_46 : decode cX12_key 46 = .ok (.if_icmp .le 9, 3) := by decide +kernel
theorem dX12_key_49 : decode cX12_key 49 = .ok (.iload 5, 2) := by decide +kernel
theorem dX12_key_51 : decode cX12_key 51 = .ok (.istore_n 3, 1) := by decide +kernel
theorem dX12_key_52 : decode cX12_key 52 = .ok (.iload 4, 2) := by decide +kernel
theorem dX12_key_54 : decode cX12_key 54 = .ok (.istore_n 2, 1) := by decide +kernel
theorem dX12_key_55 : decode cX12_key 55 = .ok (.iinc 4 1, 3) := by decide +kernel
theorem dX12_key_58 : decode cX12_key 58 = .ok (.goto (-38), 3) := by decide +kernel
theorem dX12_key_61 : decode cX12_key 61 = .ok (.iload_n 1, 1) := by decide +kernel
theorem dX12_key_62 : decode cX12_key 62 = .ok (.ifCond .ne 7, 3) := by decide +kernel
theorem dX12_key_65 : decode cX12_key 65 = .ok (.iload_n 2, 1) := by decide +kernel
theorem dX12_key_66 : decode cX12_key 66 = .ok (.goto 4, 3) := by decide +kernel
theorem dX12_key_69 : decode cX12_key 69 = .ok (.iload_n 3, 1) := by decide +kernel
theorem dX12_key_70 : decode cX12_key 70 = .ok (.ireturn, 1) := by decide +kernel
theorem dX12_wouldPaper_0 : decode cX12_wouldPaper 0 = .ok (.aload_n 0, 1) := by decide +kernel
theorem dX12_wouldPaper_1 : decode cX12_wouldPaper 1 = .ok (.getfield 26, 3) := by decide +kernel
theorem dX12_wouldPaper_4 : decode cX12_wouldPaper 4 = .ok (.iload_n 1, 1) := by decide +kernel
theorem dX12_wouldPaper_5 : decode cX12_wouldPaper 5 = .ok (.invokevirtual 143, 3) := by decide +kernel
theorem dX12_wouldPaper_8 : decode cX12_wouldPaper 8 = .ok (.ifCond .eq 23, 3) := by decide +kernel
theorem dX12_wouldPaper_11 : decode cX12_wouldPaper 11 = .ok (.iload_n 2, 1) := by decide +kernel
theorem dX12_wouldPaper_12 : decode cX12_wouldPaper 12 = .ok (.ifCond .lt 19, 3) := by decide +kernel
theorem dX12_wouldPaper_15 : decode cX12_wouldPaper 15 = .ok (.iload_n 2, 1) := by decide +kernel
theorem dX12_wouldPaper_16 : decode cX12_wouldPaper 16 = .ok (.iconst 2, 1) := by decide +kernel
theorem dX12_wouldPaper_17 : decode cX12_wouldPaper 17 = .ok (.if_icmp .gt 14, 3) := by decide +kernel
theorem dX12_wouldPaper_20 : decode cX12_wouldPaper 20 = .ok (.aload_n 0, 1) := by decide +kernel
theorem dX12_wouldPaper_21 : decode cX12_wouldPaper 21 = .ok (.getfield 26, 3) := by decide +kernel
theorem dX12_wouldPaper_24 : decode cX12_wouldPaper 24 = .ok (.iload_n 3, 1) := by decide +kernel
theorem dX12_wouldPaper_25 : decode cX12_wouldPaper 25 = .ok (.invokevirtual 189, 3) := by decide +kernel
theorem dX12_wouldPaper_28 : decode cX12_wouldPaper 28 = .ok (.ifCond .ne 5, 3) := by decide +kernel
theorem dX12_wouldPaper_31 : decode cX12_wouldPaper 31 = .ok (.iconst (-1), 1) := by decide +kernel
theorem dX12_wouldPaper_32 : decode cX12_wouldPaper 32 = .ok (.ireturn, 1) := by decide +kernel
theorem dX12_wouldPaper_33 : decode cX12_wouldPaper 33 = .ok (.aload_n 0, 1) := by decide +kernel
theorem dX12_wouldPaper_34 : decode cX12_wouldPaper 34 = .ok (.getfield 26, 3) := by decide +kernel
theorem dX12_wouldPaper_37 : decode cX12_wouldPaper 37 = .ok (.getfield 148, 3) := by decide +kernel
theorem dX12_wouldPaper_40 : decode cX12_wouldPaper 40 = .ok (.iload_n 1, 1) := by decide +kernel
theorem dX12_wouldPaper_41 : decode cX12_wouldPaper 41 = .ok (.aaload, 1) := by decide +kernel
theorem dX12_wouldPaper_42 : decode cX12_wouldPaper 42 = .ok (.astore 4, 2) := by decide +kernel
theorem dX12_wouldPaper_44 : decode cX12_wouldPaper 44 = .ok (.aload 4, 2) := by decide +kernel
theorem dX12_wouldPaper_46 : decode cX12_wouldPaper 46 = .ok (.getfield 183, 3) := by decide +kernel
theorem dX12_wouldPaper_49 : decode cX12_wouldPaper 49 = .ok (.istore 5, 2) := by decide +kernel
theorem dX12_wouldPaper_51 : decode cX12_wouldPaper 51 = .ok (.aload 4, 2) := by decide +kernel
theorem dX12_wouldPaper_53 : decode cX12_wouldPaper 53 = .ok (.getfield 186, 3) := by decide +kernel
theorem dX12_wouldPaper_56 : decode cX12_wouldPaper 56 = .ok (.istore 6, 2) := by decide +kernel
theorem dX12_wouldPaper_58 : decode cX12_wouldPaper 58 = .ok (.iload_n 2, 1) := by decide +kernel
theorem dX12_wouldPaper_59 : decode cX12_wouldPaper 59 = .ok (.lookupswitch 43 #[(0, 25), (1, 34)], 25) := by decide +kernel
theorem dX12_wouldPaper_84 : decode cX12_wouldPaper 84 = .ok (.aload 4, 2) := by decide +kernel
theorem dX12_wouldPaper_86 : decode cX12_wouldPaper 86 = .ok (.iconst 0, 1) := by decide +kernel
theorem dX12_wouldPaper_87 : decode cX12_wouldPaper 87 = .ok (.putfield 183, 3) := by decide +kernel
theorem dX12_wouldPaper_90 : decode cX12_wouldPaper 90 = .ok (.goto 18, 3) := by decide +kernel
theorem dX12_wouldPaper_93 : decode cX12_wouldPaper 93 = .ok (.aload 4, 2) := by decide +kernel
theorem dX12_wouldPaper_95 : decode cX12_wouldPaper 95 = .ok (.iconst (-1), 1) := by decide +kernel
theorem dX12_wouldPaper_96 : decode cX12_wouldPaper 96 = .ok (.putfield 183, 3) := by decide +kernel
theorem dX12_wouldPaper_99 : decode cX12_wouldPaper 99 = .ok (.goto 9, 3) := by decide +kernel
theorem dX12_wouldPaper_102 : decode cX12_wouldPaper 102 = .ok (.aload 4, 2) := by decide +kernel
theorem dX12_wouldPaper_104 : decode cX12_wouldPaper 104 = .ok (.iconst 1, 1) := by decide +kernel
theorem dX12_wouldPaper_105 : decode cX12_wouldPaper 105 = .ok (.putfield 186, 3) := by decide +kernel
theorem dX12_wouldPaper_108 : decode cX12_wouldPaper 108 = .ok (.aload_n 0, 1) := by decide +kernel
theorem dX12_wouldPaper_109 : decode cX12_wouldPaper 109 = .ok (.getfield 68, 3) := by decide +kernel
theorem dX12_wouldPaper_112 : decode cX12_wouldPaper 112 = .ok (.iload_n 3, 1) := by decide +kernel
theorem dX12_wouldPaper_113 : decode cX12_wouldPaper 113 = .ok (.sipush 9999, 3) := by decide +kernel
theorem dX12_wouldPaper_116 : decode cX12_wouldPaper 116 = .ok (.invokevirtual 373, 3) := by decide +kernel
theorem dX12_wouldPaper_119 : decode cX12_wouldPaper 119 = .ok (.istore 7, 2) := by decide +kernel
theorem dX12_wouldPaper_121 : decode cX12_wouldPaper 121 = .ok (.aload 4, 2) := by decide +kernel
theorem dX12_wouldPaper_123 : decode cX12_wouldPaper 123 = .ok (.iload 5, 2) := by decide +kernel
theorem dX12_wouldPaper_125 : decode cX12_wouldPaper 125 = .ok (.putfield 183, 3) := by decide +kernel
theorem dX12_wouldPaper_128 : decode cX12_wouldPaper 128 = .ok (.aload 4, 2) := by decide +kernel
theorem dX12_wouldPaper_130 : decode cX12_wouldPaper 130 = .ok (.iload 6, 2) := by decide +kernel
theorem dX12_wouldPaper_132 : decode cX12_wouldPaper 132 = .ok (.putfield 186, 3) := by decide +kernel
theorem dX12_wouldPaper_135 : decode cX12_wouldPaper 135 = .ok (.iload 7, 2) := by decide +kernel
theorem dX12_wouldPaper_137 : decode cX12_wouldPaper 137 = .ok (.ireturn, 1) := by decide +kernel
theorem dX12_wouldDie_0 : decode cX12_wouldDie 0 = .ok (.aload_n 0, 1) := by decide +kernel
theorem dX12_wouldDie_1 : decode cX12_wouldDie 1 = .ok (.getfield 26, 3) := by decide +kernel
theorem dX12_wouldDie_4 : decode cX12_wouldDie 4 = .ok (.iload_n 1, 1) := by decide +kernel
theorem dX12_wouldDie_5 : decode cX12_wouldDie 5 = .ok (.invokevirtual 101, 3) := by decide +kernel
theorem dX12_wouldDie_8 : decode cX12_wouldDie 8 = .ok (.ifCond .eq 21, 3) := by decide +kernel
theorem dX12_wouldDie_11 : decode cX12_wouldDie 11 = .ok (.iload_n 2, 1) := by decide +kernel
theorem dX12_wouldDie_12 : decode cX12_wouldDie 12 = .ok (.invokestatic 290, 3) := by decide +kernel
theorem dX12_wouldDie_15 : decode cX12_wouldDie 15 = .ok (.ifCond .eq 14, 3) := by decide +kernel
theorem dX12_wouldDie_18 : decode cX12_wouldDie 18 = .ok (.aload_n 0, 1) := by decide +kernel
theorem dX12_wouldDie_19 : decode cX12_wouldDie 19 = .ok (.getfield 26, 3) := by decide +kernel
theorem dX12_wouldDie_22 : decode cX12_wouldDie 22 = .ok (.iload_n 3, 1) := by decide +kernel
theorem dX12_wouldDie_23 : decode cX12_wouldDie 23 = .ok (.invokevirtual 189, 3) := by decide +kernel
theorem dX12_wouldDie_26 : decode cX12_wouldDie 26 = .ok (.ifCond .ne 5, 3) := by decide +kernel
theorem dX12_wouldDie_29 : decode cX12_wouldDie 29 = .ok (.iconst (-1), 1) := by decide +kernel
theorem dX12_wouldDie_30 : decode cX12_wouldDie 30 = .ok (.ireturn, 1) := by decide +kernel
theorem dX12_wouldDie_31 : decode cX12_wouldDie 31 = .ok (.aload_n 0, 1) := by decide +kernel
theorem dX12_wouldDie_32 : decode cX12_wouldDie 32 = .ok (.getfield 68, 3) := by decide +kernel
theorem dX12_wouldDie_35 : decode cX12_wouldDie 35 = .ok (.iload_n 1, 1) := by decide +kernel
theorem dX12_wouldDie_36 : decode cX12_wouldDie 36 = .ok (.iload_n 2, 1) := by decide +kernel
theorem dX12_wouldDie_37 : decode cX12_wouldDie 37 = .ok (.iload_n 3, 1) := by decide +kernel
theorem dX12_wouldDie_38 : decode cX12_wouldDie 38 = .ok (.invokevirtual 404, 3) := by decide +kernel
theorem dX12_wouldDie_41 : decode cX12_wouldDie 41 = .ok (.ireturn, 1) := by decide +kernel
theorem dX12_dayFor_0 : decode cX12_dayFor 0 = .ok (.aload_n 0, 1) := by decide +kernel
theorem dX12_dayFor_1 : decode cX12_dayFor 1 = .ok (.getfield 26, 3) := by decide +kernel
theorem dX12_dayFor_4 : decode cX12_dayFor 4 = .ok (.iload_n 1, 1) := by decide +kernel
theorem dX12_dayFor_5 : decode cX12_dayFor 5 = .ok (.invokevirtual 101, 3) := by decide +kernel
theorem dX12_dayFor_8 : decode cX12_dayFor 8 = .ok (.ifCond .eq 30, 3) := by decide +kernel
theorem dX12_dayFor_11 : decode cX12_dayFor 11 = .ok (.aload_n 0, 1) := by decide +kernel
theorem dX12_dayFor_12 : decode cX12_dayFor 12 = .ok (.getfield 26, 3) := by decide +kernel
theorem dX12_dayFor_15 : decode cX12_dayFor 15 = .ok (.iload_n 2, 1) := by decide +kernel
theorem dX12_dayFor_16 : decode cX12_dayFor 16 = .ok (.invokevirtual 101, 3) := by decide +kernel
theorem dX12_dayFor_19 : decode cX12_dayFor 19 = .ok (.ifCond .eq 19, 3) := by decide +kernel
theorem dX12_dayFor_22 : decode cX12_dayFor 22 = .ok (.iload_n 1, 1) := by decide +kernel
theorem dX12_dayFor_23 : decode cX12_dayFor 23 = .ok (.iload_n 2, 1) := by decide +kernel
theorem dX12_dayFor_24 : decode cX12_dayFor 24 = .ok (.if_icmp .eq 14, 3) := by decide +kernel
theorem dX12_dayFor_27 : decode cX12_dayFor 27 = .ok (.aload_n 0, 1) := by decide +kernel
theorem dX12_dayFor_28 : decode cX12_dayFor 28 = .ok (.getfield 26, 3) := by decide +kernel
theorem dX12_dayFor_31 : decode cX12_dayFor 31 = .ok (.iload_n 3, 1) := by decide +kernel
theorem dX12_dayFor_32 : decode cX12_dayFor 32 = .ok (.invokevirtual 189, 3) := by decide +kernel
theorem dX12_dayFor_35 : decode cX12_dayFor 35 = .ok (.ifCond .ne 5, 3) := by decide +kernel
theorem dX12_dayFor_38 : decode cX12_dayFor 38 = .ok (.iconst (-1), 1) := by decide +kernel
theorem dX12_dayFor_39 : decode cX12_dayFor 39 = .ok (.ireturn, 1) := by decide +kernel
theorem dX12_dayFor_40 : decode cX12_dayFor 40 = .ok (.iconst 0, 1) := by decide +kernel
theorem dX12_dayFor_41 : decode cX12_dayFor 41 = .ok (.istore 4, 2) := by decide +kernel
theorem dX12_dayFor_43 : decode cX12_dayFor 43 = .ok (.iconst 0, 1) := by decide +kernel
theorem dX12_dayFor_44 : decode cX12_dayFor 44 = .ok (.istore 5, 2) := by decide +kernel
theorem dX12_dayFor_46 : decode cX12_dayFor 46 = .ok (.iload 5, 2) := by decide +kernel
theorem dX12_dayFor_48 : decode cX12_dayFor 48 = .ok (.bipush 57, 2) := by decide +kernel
theorem dX12_dayFor_50 : decode cX12_dayFor 50 = .ok (.if_icmp .ge 54, 3) := by decide +kernel
theorem dX12_dayFor_53 : decode cX12_dayFor 53 = .ok (.iload 4, 2) := by decide +kernel
theorem dX12_dayFor_55 : decode cX12_dayFor 55 = .ok (.sipush 9999, 3) := by decide +kernel
theorem dX12_dayFor_58 : decode cX12_dayFor 58 = .ok (.if_icmp .gt 46, 3) := by decide +kernel
theorem dX12_dayFor_61 : decode cX12_dayFor 61 = .ok (.aload_n 0, 1) := by decide +kernel
theorem dX12_dayFor_62 : decode cX12_dayFor 62 = .ok (.getfield 68, 3) := by decide +kernel
theorem dX12_dayFor_65 : decode cX12_dayFor 65 = .ok (.iload_n 1, 1) := by decide +kernel
theorem dX12_dayFor_66 : decode cX12_dayFor 66 = .ok (.iload 4, 2) := by decide +kernel
theorem dX12_dayFor_68 : decode cX12_dayFor 68 = .ok (.iload_n 3, 1) := by decide +kernel
theorem dX12_dayFor_69 : decode cX12_dayFor 69 = .ok (.invokevirtual 404, 3) := by decide +kernel
theorem dX12_dayFor_72 : decode cX12_dayFor 72 = .ok (.istore 6, 2) := by decide +kernel
theorem dX12_dayFor_74 : decode cX12_dayFor 74 = .ok (.iload 6, 2) := by decide +kernel
theorem dX12_dayFor_76 : decode cX12_dayFor 76 = .ok (.iload_n 2, 1) := by decide +kernel
theorem dX12_dayFor_77 : decode cX12_dayFor 77 = .ok (.ishr, 1) := by decide +kernel
theorem dX12_dayFor_78 : decode cX12_dayFor 78 = .ok (.iconst 1, 1) := by decide +kernel
theorem dX12_dayFor_79 : decode cX12_dayFor 79 = .ok (.iand, 1) := by decide +kernel
theorem dX12_dayFor_80 : decode cX12_dayFor 80 = .ok (.ifCond .eq 6, 3) := by decide +kernel
theorem dX12_dayFor_83 : decode cX12_dayFor 83 = .ok (.iload 4, 2) := by decide +kernel
theorem dX12_dayFor_85 : decode cX12_dayFor 85 = .ok (.ireturn, 1) := by decide +kernel
theorem dX12_dayFor_86 : decode cX12_dayFor 86 = .ok (.aload_n 0, 1) := by decide +kernel
theorem dX12_dayFor_87 : decode cX12_dayFor 87 = .ok (.getfield 26, 3) := by decide +kernel
theorem dX12_dayFor_90 : decode cX12_dayFor 90 = .ok (.iload 4, 2) := by decide +kernel
theorem dX12_dayFor_92 : decode cX12_dayFor 92 = .ok (.iload_n 1, 1) := by decide +kernel
theorem dX12_dayFor_93 : decode cX12_dayFor 93 = .ok (.invokevirtual 408, 3) := by decide +kernel
theorem dX12_dayFor_96 : decode cX12_dayFor 96 = .ok (.istore 4, 2) := by decide +kernel
theorem dX12_dayFor_98 : decode cX12_dayFor 98 = .ok (.iinc 5 1, 3) := by decide +kernel
theorem dX12_dayFor_101 : decode cX12_dayFor 101 = .ok (.goto (-55), 3) := by decide +kernel
theorem dX12_dayFor_104 : decode cX12_dayFor 104 = .ok (.bipush (-2), 2) := by decide +kernel
theorem dX12_dayFor_106 : decode cX12_dayFor 106 = .ok (.ireturn, 1) := by decide +kernel
theorem dX12_bit_0 : decode cX12_bit 0 = .ok (.iload_n 0, 1) := by decide +kernel
theorem dX12_bit_1 : decode cX12_bit 1 = .ok (.ifCond .eq 7, 3) := by decide +kernel
theorem dX12_bit_4 : decode cX12_bit 4 = .ok (.iconst 1, 1) := by decide +kernel
theorem dX12_bit_5 : decode cX12_bit 5 = .ok (.goto 4, 3) := by decide +kernel
theorem dX12_bit_8 : decode cX12_bit 8 = .ok (.iconst 0, 1) := by decide +kernel
theorem dX12_bit_9 : decode cX12_bit 9 = .ok (.ireturn, 1) := by decide +kernel
theorem dX12_orMinusTwo_0 : decode cX12_orMinusTwo 0 = .ok (.iload_n 0, 1) := by decide +kernel
theorem dX12_orMinusTwo_1 : decode cX12_orMinusTwo 1 = .ok (.ifCond .ge 8, 3) := by decide +kernel
theorem dX12_orMinusTwo_4 : decode cX12_orMinusTwo 4 = .ok (.bipush (-2), 2) := by decide +kernel
theorem dX12_orMinusTwo_6 : decode cX12_orMinusTwo 6 = .ok (.goto 4, 3) := by decide +kernel
theorem dX12_orMinusTwo_9 : decode cX12_orMinusTwo 9 = .ok (.iload_n 0, 1) := by decide +kernel
theorem dX12_orMinusTwo_10 : decode cX12_orMinusTwo 10 = .ok (.ireturn, 1) := by decide +kernel
theorem dX12_isLand_0 : decode cX12_isLand 0 = .ok (.iload_n 0, 1) := by decide +kernel
theorem dX12_isLand_1 : decode cX12_isLand 1 = .ok (.ifCond .lt 12, 3) := by decide +kernel
theorem dX12_isLand_4 : decode cX12_isLand 4 = .ok (.iload_n 0, 1) := by decide +kernel
theorem dX12_isLand_5 : decode cX12_isLand 5 = .ok (.iconst 2, 1) := by decide +kernel
theorem dX12_isLand_6 : decode cX12_isLand 6 = .ok (.if_icmp .ge 7, 3) := by decide +kernel
theorem dX12_isLand_9 : decode cX12_isLand 9 = .ok (.iconst 1, 1) := by decide +kernel
theorem dX12_isLand_10 : decode cX12_isLand 10 = .ok (.goto 4, 3) := by decide +kernel
theorem dX12_isLand_13 : decode cX12_isLand 13 = .ok (.iconst 0, 1) := by decide +kernel
theorem dX12_isLand_14 : decode cX12_isLand 14 = .ok (.ireturn, 1) := by decide +kernel
theorem dX12_isDay_0 : decode cX12_isDay 0 = .ok (.iload_n 0, 1) := by decide +kernel
theorem dX12_isDay_1 : decode cX12_isDay 1 = .ok (.ifCond .lt 14, 3) := by decide +kernel
theorem dX12_isDay_4 : decode cX12_isDay 4 = .ok (.iload_n 0, 1) := by decide +kernel
theorem dX12_isDay_5 : decode cX12_isDay 5 = .ok (.sipush 9999, 3) := by decide +kernel
theorem dX12_isDay_8 : decode cX12_isDay 8 = .ok (.if_icmp .gt 7, 3) := by decide +kernel
theorem dX12_isDay_11 : decode cX12_isDay 11 = .ok (.iconst 1, 1) := by decide +kernel
theorem dX12_isDay_12 : decode cX12_isDay 12 = .ok (.goto 4, 3) := by decide +kernel
theorem dX12_isDay_15 : decode cX12_isDay 15 = .ok (.iconst 0, 1) := by decide +kernel
theorem dX12_isDay_16 : decode cX12_isDay 16 = .ok (.ireturn, 1) := by decide +kernel
theorem dX12_isDayOrNever_0 : decode cX12_isDayOrNever 0 = .ok (.iload_n 0, 1) := by decide +kernel
theorem dX12_isDayOrNever_1 : decode cX12_isDayOrNever 1 = .ok (.iconst (-1), 1) := by decide +kernel
theorem dX12_isDayOrNever_2 : decode cX12_isDayOrNever 2 = .ok (.if_icmp .eq 10, 3) := by decide +kernel
theorem dX12_isDayOrNever_5 : decode cX12_isDayOrNever 5 = .ok (.iload_n 0, 1) := by decide +kernel
theorem dX12_isDayOrNever_6 : decode cX12_isDayOrNever 6 = .ok (.invokestatic 284, 3) := by decide +kernel
theorem dX12_isDayOrNever_9 : decode cX12_isDayOrNever 9 = .ok (.ifCond .eq 7, 3) := by decide +kernel
theorem dX12_isDayOrNever_12 : decode cX12_isDayOrNever 12 = .ok (.iconst 1, 1) := by decide +kernel
theorem dX12_isDayOrNever_13 : decode cX12_isDayOrNever 13 = .ok (.goto 4, 3) := by decide +kernel
theorem dX12_isDayOrNever_16 : decode cX12_isDayOrNever 16 = .ok (.iconst 0, 1) := by decide +kernel
theorem dX12_isDayOrNever_17 : decode cX12_isDayOrNever 17 = .ok (.ireturn, 1) := by decide +kernel
theorem dX12_isPersonOrCrown_0 : decode cX12_isPersonOrCrown 0 = .ok (.iload_n 1, 1) := by decide +kernel
theorem dX12_isPersonOrCrown_1 : decode cX12_isPersonOrCrown 1 = .ok (.iconst (-1), 1) := by decide +kernel
theorem dX12_isPersonOrCrown_2 : decode cX12_isPersonOrCrown 2 = .ok (.if_icmp .eq 14, 3) := by decide +kernel
theorem dX12_isPersonOrCrown_5 : decode cX12_isPersonOrCrown 5 = .ok (.aload_n 0, 1) := by decide +kernel
theorem dX12_isPersonOrCrown_6 : decode cX12_isPersonOrCrown 6 = .ok (.getfield 26, 3) := by decide +kernel
theorem dX12_isPersonOrCrown_9 : decode cX12_isPersonOrCrown 9 = .ok (.iload_n 1, 1) := by decide +kernel
theorem dX12_isPersonOrCrown_10 : decode cX12_isPersonOrCrown 10 = .ok (.invokevirtual 101, 3) := by decide +kernel
theorem dX12_isPersonOrCrown_13 : decode cX12_isPersonOrCrown 13 = .ok (.ifCond .eq 7, 3) := by decide +kernel
theorem dX12_isPersonOrCrown_16 : decode cX12_isPersonOrCrown 16 = .ok (.iconst 1, 1) := by decide +kernel
theorem dX12_isPersonOrCrown_17 : decode cX12_isPersonOrCrown 17 = .ok (.goto 4, 3) := by decide +kernel
theorem dX12_isPersonOrCrown_20 : decode cX12_isPersonOrCrown 20 = .ok (.iconst 0, 1) := by decide +kernel
theorem dX12_isPersonOrCrown_21 : decode cX12_isPersonOrCrown 21 = .ok (.ireturn, 1) := by decide +kernel
theorem dX12_holder_0 : decode cX12_holder 0 = .ok (.iload_n 0, 1) := by decide +kernel
theorem dX12_holder_1 : decode cX12_holder 1 = .ok (.iconst (-1), 1) := by decide +kernel
theorem dX12_holder_2 : decode cX12_holder 2 = .ok (.if_icmp .ne 8, 3) := by decide +kernel
theorem dX12_holder_5 : decode cX12_holder 5 = .ok (.bipush 10, 2) := by decide +kernel
theorem dX12_holder_7 : decode cX12_holder 7 = .ok (.goto 4, 3) := by decide +kernel
theorem dX12_holder_10 : decode cX12_holder 10 = .ok (.iload_n 0, 1) := by decide +kernel
theorem dX12_holder_11 : decode cX12_holder 11 = .ok (.ireturn, 1) := by decide +kernel
theorem dX12_greatestDivisor_0 : decode cX12_greatestDivisor 0 = .ok (.lload_n 0, 1) := by decide +kernel
theorem dX12_greatestDivisor_1 : decode cX12_greatestDivisor 1 = .ok (.lstore 4, 2) := by decide +kernel
theorem dX12_greatestDivisor_3 : decode cX12_greatestDivisor 3 = .ok (.lload_n 2, 1) := by decide +kernel
theorem dX12_greatestDivisor_4 : decode cX12_greatestDivisor 4 = .ok (.lstore 6, 2) := by decide +kernel
theorem dX12_greatestDivisor_6 : decode cX12_greatestDivisor 6 = .ok (.iconst 0, 1) := by decide +kernel
theorem dX12_greatestDivisor_7 : decode cX12_greatestDivisor 7 = .ok (.istore 8, 2) := by decide +kernel
theorem dX12_greatestDivisor_9 : decode cX12_greatestDivisor 9 = .ok (.iload 8, 2) := by decide +kernel
theorem dX12_greatestDivisor_11 : decode cX12_greatestDivisor 11 = .ok (.bipush 100, 2) := by decide +kernel
theorem dX12_greatestDivisor_13 : decode cX12_greatestDivisor 13 = .ok (.if_icmp .ge 31, 3) := by decide +kernel
theorem dX12_greatestDivisor_16 : decode cX12_greatestDivisor 16 = .ok (.lload 6, 2) := by decide +kernel
theorem dX12_greatestDivisor_18 : decode cX12_greatestDivisor 18 = .ok (.lconst 0, 1) := by decide +kernel
theorem dX12_greatestDivisor_19 : decode cX12_greatestDivisor 19 = .ok (.lcmp, 1) := by decide +kernel
theorem dX12_greatestDivisor_20 : decode cX12_greatestDivisor 20 = .ok (.ifCond .le 24, 3) := by decide +kernel
theorem dX12_greatestDivisor_23 : decode cX12_greatestDivisor 23 = .ok (.lload 4, 2) := by decide +kernel
theorem dX12_greatestDivisor_25 : decode cX12_greatestDivisor 25 = .ok (.lload 6, 2) := by decide +kernel
theorem dX12_greatestDivisor_27 : decode cX12_greatestDivisor 27 = .ok (.lrem, 1) := by decide +kernel
theorem dX12_greatestDivisor_28 : decode cX12_greatestDivisor 28 = .ok (.lstore 9, 2) := by decide +kernel
theorem dX12_greatestDivisor_30 : decode cX12_greatestDivisor 30 = .ok (.lload 6, 2) := by decide +kernel
theorem dX12_greatestDivisor_32 : decode cX12_greatestDivisor 32 = .ok (.lstore 4, 2) := by decide +kernel
theorem dX12_greatestDivisor_34 : decode cX12_greatestDivisor 34 = .ok (.lload 9, 2) := by decide +kernel
theorem dX12_greatestDivisor_36 : decode cX12_greatestDivisor 36 = .ok (.lstore 6, 2) := by decide +kernel
theorem dX12_greatestDivisor_38 : decode cX12_greatestDivisor 38 = .ok (.iinc 8 1, 3) := by decide +kernel
theorem dX12_greatestDivisor_41 : decode cX12_greatestDivisor 41 = .ok (.goto (-32), 3) := by decide +kernel
theorem dX12_greatestDivisor_44 : decode cX12_greatestDivisor 44 = .ok (.lload 4, 2) := by decide +kernel
theorem dX12_greatestDivisor_46 : decode cX12_greatestDivisor 46 = .ok (.lreturn, 1) := by decide +kernel
theorem dX13_init_0 : decode cX13_init 0 = .ok (.aload_n 0, 1) := by decide +kernel
theorem dX13_init_1 : decode cX13_init 1 = .ok (.invokespecial 1, 3) := by decide +kernel
theorem dX13_init_4 : decode cX13_init 4 = .ok (.aload_n 0, 1) := by decide +kernel
theorem dX13_init_5 : decode cX13_init 5 = .ok (.sipush 1200, 3) := by decide +kernel
theorem dX13_init_8 : decode cX13_init 8 = .ok (.newarray .int, 2) := by decide +kernel
theorem dX13_init_10 : decode cX13_init 10 = .ok (.putfield 7, 3) := by decide +kernel
theorem dX13_init_13 : decode cX13_init 13 = .ok (.aload_n 0, 1) := by decide +kernel
theorem dX13_init_14 : decode cX13_init 14 = .ok (.sipush 502, 3) := by decide +kernel
theorem dX13_init_17 : decode cX13_init 17 = .ok (.newarray .int, 2) := by decide +kernel
theorem dX13_init_19 : decode cX13_init 19 = .ok (.putfield 13, 3) := by decide +kernel
theorem dX13_init_22 : decode cX13_init 22 = .ok (.aload_n 0, 1) := by decide +kernel
theorem dX13_init_23 : decode cX13_init 23 = .ok (.sipush 502, 3) := by decide +kernel
theorem dX13_init_26 : decode cX13_init 26 = .ok (.newarray .int, 2) := by decide +kernel
theorem dX13_init_28 : decode cX13_init 28 = .ok (.putfield 16, 3) := by decide +kernel
theorem dX13_init_31 : decode cX13_init 31 = .ok (.aload_n 0, 1) := by decide +kernel
theorem dX13_init_32 : decode cX13_init 32 = .ok (.bipush 12, 2) := by decide +kernel
theorem dX13_init_34 : decode cX13_init 34 = .ok (.newarray .int, 2) := by decide +kernel
theorem dX13_init_36 : decode cX13_init 36 = .ok (.putfield 19, 3) := by decide +kernel
theorem dX13_init_39 : decode cX13_init 39 = .ok (.aload_n 0, 1) := by decide +kernel
theorem dX13_init_40 : decode cX13_init 40 = .ok (.bipush 12, 2) := by decide +kernel
theorem dX13_init_42 : decode cX13_init 42 = .ok (.newarray .int, 2) := by decide +kernel
theorem dX13_init_44 : decode cX13_init 44 = .ok (.putfield 22, 3) := by decide +kernel
theorem dX13_init_47 : decode cX13_init 47 = .ok (.aload_n 0, 1) := by decide +kernel
theorem dX13_init_48 : decode cX13_init 48 = .ok (.bipush 65, 2) := by decide +kernel
theorem dX13_init_50 : decode cX13_init 50 = .ok (.newarray .int, 2) := by decide +kernel
theorem dX13_init_52 : decode cX13_init 52 = .ok (.putfield 25, 3) := by decide +kernel
theorem dX13_init_55 : decode cX13_init 55 = .ok (.aload_n 0, 1) := by decide +kernel
theorem dX13_init_56 : decode cX13_init 56 = .ok (.bipush 65, 2) := by decide +kernel
theorem dX13_init_58 : decode cX13_init 58 = .ok (.newarray .int, 2) := by decide +kernel
theorem dX13_init_60 : decode cX13_init 60 = .ok (.putfield 28, 3) := by decide +kernel
theorem dX13_init_63 : decode cX13_init 63 = .ok (.aload_n 0, 1) := by decide +kernel
theorem dX13_init_64 : decode cX13_init 64 = .ok (.sipush 1040, 3) := by decide +kernel
theorem dX13_init_67 : decode cX13_init 67 = .ok (.newarray .int, 2) := by decide +kernel
theorem dX13_init_69 : decode cX13_init 69 = .ok (.putfield 31, 3) := by decide +kernel
theorem dX13_init_72 : decode cX13_init 72 = .ok (.aload_n 0, 1) := by decide +kernel
theorem dX13_init_73 : decode cX13_init 73 = .ok (.bipush 36, 2) := by decide +kernel
theorem dX13_init_75 : decode cX13_init 75 = .ok (.newarray .int, 2) := by decide +kernel
theorem dX13_init_77 : decode cX13_init 77 = .ok (.putfield 34, 3) := by decide +kernel
theorem dX13_init_80 : decode cX13_init 80 = .ok (.aload_n 0, 1) := by decide +kernel
theorem dX13_init_81 : decode cX13_init 81 = .ok (.iconst (-1), 1) := by decide +kernel
theorem dX13_init_82 : decode cX13_init 82 = .ok (.putfield 37, 3) := by decide +kernel
theorem dX13_init_85 : decode cX13_init 85 = .ok (.aload_n 0, 1) := by decide +kernel
theorem dX13_init_86 : decode cX13_init 86 = .ok (.iconst 2, 1) := by decide +kernel
theorem dX13_init_87 : decode cX13_init 87 = .ok (.newarray .boolean, 2) := by decide +kernel
theorem dX13_init_89 : decode cX13_init 89 = .ok (.putfield 41, 3) := by decide +kernel
theorem dX13_init_92 : decode cX13_init 92 = .ok (.aload_n 0, 1) := by decide +kernel
theorem dX13_init_93 : decode cX13_init 93 = .ok (.bipush 11, 2) := by decide +kernel
theorem dX13_init_95 : decode cX13_init 95 = .ok (.newarray .long, 2) := by decide +kernel
theorem dX13_init_97 : decode cX13_init 97 = .ok (.putfield 45, 3) := by decide +kernel
theorem dX13_init_100 : decode cX13_init 100 = .ok (.aload_n 0, 1) := by decide +kernel
theorem dX13_init_101 : decode cX13_init 101 = .ok (.bipush 11, 2) := by decide +kernel
theorem dX13_init_103 : decode cX13_init 103 = .ok (.newarray .long, 2) := by decide +kernel
theorem dX13_init_105 : decode cX13_init 105 = .ok (.putfield 49, 3) := by decide +kernel
theorem dX13_init_108 : decode cX13_init 108 = .ok (.aload_n 0, 1) := by decide +kernel
theorem dX13_init_109 : decode cX13_init 109 = .ok (.bipush 60, 2) := by decide +kernel
theorem dX13_init_111 : decode cX13_init 111 = .ok (.newarray .int, 2) := by decide +kernel
theorem dX13_init_113 : decode cX13_init 113 = .ok (.putfield 52, 3) := by decide +kernel
theorem dX13_init_116 : decode cX13_init 116 = .ok (.aload_n 0, 1) := by decide +kernel
theorem dX13_init_117 : decode cX13_init 117 = .ok (.invokevirtual 55, 3) := by decide +kernel
theorem dX13_init_120 : decode cX13_init 120 = .ok (.aload_n 0, 1) := by decide +kernel
theorem dX13_init_121 : decode cX13_init 121 = .ok (.invokevirtual 58, 3) := by decide +kernel
theorem dX13_init_124 : decode cX13_init 124 = .ok (.return_, 1) := by decide +kernel
theorem dX13_feed_0 : decode cX13_feed 0 = .ok (.aload_n 0, 1) := by decide +kernel
theorem dX13_feed_1 : decode cX13_feed 1 = .ok (.iconst 0, 1) := by decide +kernel
theorem dX13_feed_2 : decode cX13_feed 2 = .ok (.putfield 61, 3) := by decide +kernel
theorem dX13_feed_5 : decode cX13_feed 5 = .ok (.aload_n 0, 1) := by decide +kernel
theorem dX13_feed_6 : decode cX13_feed 6 = .ok (.getfield 64, 3) := by decide +kernel
theorem dX13_feed_9 : decode cX13_feed 9 = .ok (.sipush 1180, 3) := by decide +kernel
theorem dX13_feed_12 : decode cX13_feed 12 = .ok (.if_icmp .le 5, 3) := by decide +kernel
theorem dX13_feed_15 : decode cX13_feed 15 = .ok (.iconst (-1), 1) := by decide +kernel
theorem dX13_feed_16 : decode cX13_feed 16 = .ok (.ireturn, 1) := by decide +kernel
theorem dX13_feed_17 : decode cX13_feed 17 = .ok (.iconst 0, 1) := by decide +kernel
theorem dX13_feed_18 : decode cX13_feed 18 = .ok (.istore 6, 2) := by decide +kernel
theorem dX13_feed_20 : decode cX13_feed 20 = .ok (.iload 6, 2) := by decide +kernel
theorem dX13_feed_22 : decode cX13_feed 22 = .ok (.bipush 20, 2) := by decide +kernel
theorem dX13_feed_24 : decode cX13_feed 24 = .ok (.if_icmp .ge 86, 3) := by decide +kernel
theorem dX13_feed_27 : decode cX13_feed 27 = .ok (.iload 6, 2) := by decide +kernel
theorem dX13_feed_29 : decode cX13_feed 29 = .ok (.iconst 4, 1) := by decide +kernel
theorem dX13_feed_30 : decode cX13_feed 30 = .ok (.if_icmp .ge 7, 3) := by decide +kernel
theorem dX13_feed_33 : decode cX13_feed 33 = .ok (.iload_n 1, 1) := by decide +kernel
theorem dX13_feed_34 : decode cX13_feed 34 = .ok (.goto 39, 3) := by decide +kernel
theorem dX13_feed_37 : decode cX13_feed 37 = .ok (.iload 6, 2) := by decide +kernel
theorem dX13_feed_39 : decode cX13_feed 39 = .ok (.bipush 8, 2) := by decide +kernel
theorem dX13_feed_41 : decode cX13_feed 41 = .ok (.if_icmp .ge 7, 3) := by decide +kernel
theorem dX13_feed_44 : decode cX13_feed 44 = .ok (.iload_n 2, 1) := by decide +kernel
theorem dX13_feed_45 : decode cX13_feed 45 = .ok (.goto 28, 3) := by decide +kernel
theorem dX13_feed_48 : decode cX13_feed 48 = .ok (.iload 6, 2) := by decide +kernel
theorem dX13_feed_50 : decode cX13_feed 50 = .ok (.bipush 12, 2) := by decide +kernel
theorem dX13_feed_52 : decode cX13_feed 52 = .ok (.if_icmp .ge 7, 3) := by decide +kernel
theorem dX13_feed_55 : decode cX13_feed 55 = .ok (.iload_n 3, 1) := by decide +kernel
theorem dX13_feed_56 : decode cX13_feed 56 = .ok (.goto 17, 3) := by decide +kernel
theorem dX13_feed_59 : decode cX13_feed 59 = .ok (.iload 6, 2) := by decide +kernel
theorem dX13_feed_61 : decode cX13_feed 61 = .ok (.bipush 16, 2) := by decide +kernel
theorem dX13_feed_63 : decode cX13_feed 63 = .ok (.if_icmp .ge 8, 3) := by decide +kernel
theorem dX13_feed_66 : decode cX13_feed 66 = .ok (.iload 4, 2) := by decide +kernel
theorem dX13_feed_68 : decode cX13_feed 68 = .ok (.goto 5, 3) := by decide +kernel
theorem dX13_feed_71 : decode cX13_feed 71 = .ok (.iload 5, 2) := by decide +kernel
theorem dX13_feed_73 : decode cX13_feed 73 = .ok (.istore 7, 2) := by decide +kernel
theorem dX13_feed_75 : decode cX13_feed 75 = .ok (.aload_n 0, 1) := by decide +kernel
theorem dX13_feed_76 : decode cX13_feed 76 = .ok (.getfield 7, 3) := by decide +kernel
theorem dX13_feed_79 : decode cX13_feed 79 = .ok (.aload_n 0, 1) := by decide +kernel
theorem dX13_feed_80 : decode cX13_feed 80 = .ok (.getfield 64, 3) := by decide +kernel
theorem dX13_feed_83 : decode cX13_feed 83 = .ok (.iload 6, 2) := by decide +kernel
theorem dX13_feed_85 : decode cX13_feed 85 = .ok (.iadd, 1) := by decide +kernel
theorem dX13_feed_86 : decode cX13_feed 86 = .ok (.iload 7, 2) := by decide +kernel
theorem dX13_feed_88 : decode cX13_feed 88 = .ok (.bipush 24, 2) := by decide +kernel
theorem dX13_feed_90 : decode cX13_feed 90 = .ok (.bipush 8, 2) := by decide +kernel
theorem dX13_feed_92 : decode cX13_feed 92 = .ok (.iload 6, 2) := by decide +kernel
theorem dX13_feed_94 : decode cX13_feed 94 = .ok (.iconst 4, 1) := by decide +kernel
theorem dX13_feed_95 : decode cX13_feed 95 = .ok (.irem, 1) := by decide +kernel
theorem dX13_feed_96 : decode cX13_feed 96 = .ok (.imul, 1) := by decide +kernel
theorem dX13_feed_97 : decode cX13_feed 97 = .ok (.isub, 1) := by decide +kernel
theorem dX13_feed_98 : decode cX13_feed 98 = .ok (.ishr, 1) := by decide +kernel
theorem dX13_feed_99 : decode cX13_feed 99 = .ok (.sipush 255, 3) := by decide +kernel
theorem dX13_feed_102 : decode cX13_feed 102 = .ok (.iand, 1) := by decide +kernel
theorem dX13_feed_103 : decode cX13_feed 103 = .ok (.iastore, 1) := by decide +kernel
theorem dX13_feed_104 : decode cX13_feed 104 = .ok (.iinc 6 1, 3) := by decide +kernel
theorem dX13_feed_107 : decode cX13_feed 107 = .ok (.goto (-87), 3) := by decide +kernel
theorem dX13_feed_110 : decode cX13_feed 110 = .ok (.aload_n 0, 1) := by decide +kernel
theorem dX13_feed_111 : decode cX13_feed 111 = .ok (.dup, 1) := by decide +kernel
theorem dX13_feed_112 : decode cX13_feed 112 = .ok (.getfield 64, 3) := by decide +kernel
theorem dX13_feed_115 : decode cX13_feed 115 = .ok (.bipush 20, 2) := by decide +kernel
theorem dX13_feed_117 : decode cX13_feed 117 = .ok (.iadd, 1) := by decide +kernel
theorem dX13_feed_118 : decode cX13_feed 118 = .ok (.putfield 64, 3) := by decide +kernel
theorem dX13_feed_121 : decode cX13_feed 121 = .ok (.aload_n 0, 1) := by decide +kernel
theorem dX13_feed_122 : decode cX13_feed 122 = .ok (.getfield 64, 3) := by decide +kernel
theorem dX13_feed_125 : decode cX13_feed 125 = .ok (.ireturn, 1) := by decide +kernel
theorem dX13_here_0 : decode cX13_here 0 = .ok (.aload_n 0, 1) := by decide +kernel
theorem dX13_here_1 : decode cX13_here 1 = .ok (.getfield 67, 3) := by decide +kernel
theorem dX13_here_4 : decode cX13_here 4 = .ok (.aload_n 0, 1) := by decide +kernel
theorem dX13_here_5 : decode cX13_here 5 = .ok (.getfield 70, 3) := by decide +kernel
theorem dX13_here_8 : decode cX13_here 8 = .ok (.if_icmp .ge 15, 3) := by decide +kernel
theorem dX13_here_11 : decode cX13_here 11 = .ok (.aload_n 0, 1) := by decide +kernel
theorem dX13_here_12 : decode cX13_here 12 = .ok (.getfield 7, 3) := by decide +kernel
theorem dX13_here_15 : decode cX13_here 15 = .ok (.aload_n 0, 1) := by decide +kernel
theorem dX13_here_16 : decode cX13_here 16 = .ok (.getfield 67, 3) := by decide +kernel
theorem dX13_here_19 : decode cX13_here 19 = .ok (.iaload, 1) := by decide +kernel
theorem dX13_here_20 : decode cX13_here 20 = .ok (.goto 4, 3) := by decide +kernel
theorem dX13_here_23 : decode cX13_here 23 = .ok (.iconst (-1), 1) := by decide +kernel
theorem dX13_here_24 : decode cX13_here 24 = .ok (.ireturn, 1) := by decide +kernel
theorem dX13_isSmall_0 : decode cX13_isSmall 0 = .ok (.iload_n 0, 1) := by decide +kernel
theorem dX13_isSmall_1 : decode cX13_isSmall 1 = .ok (.bipush 97, 2) := by decide +kernel
theorem dX13_isSmall_3 : decode cX13_isSmall 3 = .ok (.if_icmp .lt 13, 3) := by decide +kernel
theorem dX13_isSmall_6 : decode cX13_isSmall 6 = .ok (.iload_n 0, 1) := by decide +kernel
theorem dX13_isSmall_7 : decode cX13_isSmall 7 = .ok (.bipush 122, 2) := by decide +kernel
theorem dX13_isSmall_9 : decode cX13_isSmall 9 = .ok (.if_icmp .gt 7, 3) := by decide +kernel
theorem dX13_isSmall_12 : decode cX13_isSmall 12 = .ok (.iconst 1, 1) := by decide +kernel
theorem dX13_isSmall_13 : decode cX13_isSmall 13 = .ok (.goto 4, 3) := by decide +kernel
theorem dX13_isSmall_16 : decode cX13_isSmall 16 = .ok (.iconst 0, 1) := by decide +kernel
theorem dX13_isSmall_17 : decode cX13_isSmall 17 = .ok (.ireturn, 1) := by decide +kernel
theorem dX13_isDigit_0 : decode cX13_isDigit 0 = .ok (.iload_n 0, 1) := by decide +kernel
theorem dX13_isDigit_1 : decode cX13_isDigit 1 = .ok (.bipush 48, 2) := by decide +kernel
theorem dX13_isDigit_3 : decode cX13_isDigit 3 = .ok (.if_icmp .lt 13, 3) := by decide +kernel
theorem dX13_isDigit_6 : decode cX13_isDigit 6 = .ok (.iload_n 0, 1) := by decide +kernel
theorem dX13_isDigit_7 : decode cX13_isDigit 7 = .ok (.bipush 57, 2) := by decide +kernel
theorem dX13_isDigit_9 : decode cX13_isDigit 9 = .ok (.if_icmp .gt 7, 3) := by decide +kernel
theorem dX13_isDigit_12 : decode cX13_isDigit 12 = .ok (.iconst 1, 1) := by decide +kernel
theorem dX13_isDigit_13 : decode cX13_isDigit 13 = .ok (.goto 4, 3) := by decide +kernel
theorem dX13_isDigit_16 : decode cX13_isDigit 16 = .ok (.iconst 0, 1) := by decide +kernel
theorem dX13_isDigit_17 : decode cX13_isDigit 17 = .ok (.ireturn, 1) := by decide +kernel
theorem dX13_token_0 : decode cX13_token 0 = .ok (.aload_n 0, 1) := by decide +kernel
theorem dX13_token_1 : decode cX13_token 1 = .ok (.invokevirtual 73, 3) := by decide +kernel
theorem dX13_token_4 : decode cX13_token 4 = .ok (.bipush 10, 2) := by decide +kernel
theorem dX13_token_6 : decode cX13_token 6 = .ok (.if_icmp .eq 12, 3) := by decide +kernel
theorem dX13_token_9 : decode cX13_token 9 = .ok (.aload_n 0, 1) := by decide +kernel
theorem dX13_token_10 : decode cX13_token 10 = .ok (.invokevirtual 73, 3) := by decide +kernel
theorem dX13_token_13 : decode cX13_token 13 = .ok (.bipush 32, 2) := by decide +kernel
theorem dX13_token_15 : decode cX13_token 15 = .ok (.if_icmp .ne 16, 3) := by decide +kernel
theorem dX13_token_18 : decode cX13_token 18 = .ok (.aload_n 0, 1) := by decide +kernel
theorem dX13_token_19 : decode cX13_token 19 = .ok (.dup, 1) := by decide +kernel
theorem dX13_token_20 : decode cX13_token 20 = .ok (.getfield 67, 3) := by decide +kernel
theorem dX13_token_23 : decode cX13_token 23 = .ok (.iconst 1, 1) := by decide +kernel
theorem dX13_token_24 : decode cX13_token 24 = .ok (.iadd, 1) := by decide +kernel
theorem dX13_token_25 : decode cX13_token 25 = .ok (.putfield 67, 3) := by decide +kernel
theorem dX13_token_28 : decode cX13_token 28 = .ok (.goto (-28), 3) := by decide +kernel
theorem dX13_token_31 : decode cX13_token 31 = .ok (.aload_n 0, 1) := by decide +kernel
theorem dX13_token_32 : decode cX13_token 32 = .ok (.aload_n 0, 1) := by decide +kernel
theorem dX13_token_33 : decode cX13_token 33 = .ok (.getfield 67, 3) := by decide +kernel
theorem dX13_token_36 : decode cX13_token 36 = .ok (.putfield 77, 3) := by decide +kernel
theorem dX13_token_39 : decode cX13_token 39 = .ok (.aload_n 0, 1) := by decide +kernel
theorem dX13_token_40 : decode cX13_token 40 = .ok (.invokevirtual 73, 3) := by decide +kernel
theorem dX13_token_43 : decode cX13_token 43 = .ok (.istore_n 1, 1) := by decide +kernel
theorem dX13_token_44 : decode cX13_token 44 = .ok (.iload_n 1, 1) := by decide +kernel
theorem dX13_token_45 : decode cX13_token 45 = .ok (.iconst (-1), 1) := by decide +kernel
theorem dX13_token_46 : decode cX13_token 46 = .ok (.if_icmp .ne 11, 3) := by decide +kernel
theorem dX13_token_49 : decode cX13_token 49 = .ok (.aload_n 0, 1) := by decide +kernel
theorem dX13_token_50 : decode cX13_token 50 = .ok (.iconst 3, 1) := by decide +kernel
theorem dX13_token_51 : decode cX13_token 51 = .ok (.putfield 80, 3) := by decide +kernel
theorem dX13_token_54 : decode cX13_token 54 = .ok (.goto 212, 3) := by decide +kernel
theorem dX13_token_57 : decode cX13_token 57 = .ok (.iload_n 1, 1) := by decide +kernel
theorem dX13_token_58 : decode cX13_token 58 = .ok (.invokestatic 83, 3) := by decide +kernel
theorem dX13_token_61 : decode cX13_token 61 = .ok (.ifCond .eq 105, 3) := by decide +kernel
theorem dX13_token_64 : decode cX13_token 64 = .ok (.aload_n 0, 1) := by decide +kernel
theorem dX13_token_65 : decode cX13_token 65 = .ok (.iconst 0, 1) := by decide +kernel
theorem dX13_token_66 : decode cX13_token 66 = .ok (.putfield 87, 3) := by decide +kernel
theorem dX13_token_69 : decode cX13_token 69 = .ok (.aload_n 0, 1) := by decide +kernel
theorem dX13_token_70 : decode cX13_token 70 = .ok (.invokevirtual 73, 3) := by decide +kernel
theorem dX13_token_73 : decode cX13_token 73 = .ok (.invokestatic 83, 3) := by decide +kernel
theorem dX13_token_76 : decode cX13_token 76 = .ok (.ifCond .eq 49, 3) := by decide +kernel
theorem dX13_token_79 : decode cX13_token 79 = .ok (.aload_n 0, 1) := by decide +kernel
theorem dX13_token_80 : decode cX13_token 80 = .ok (.getfield 67, 3) := by decide +kernel
theorem dX13_token_83 : decode cX13_token 83 = .ok (.aload_n 0, 1) := by decide +kernel
theorem dX13_token_84 : decode cX13_token 84 = .ok (.getfield 77, 3) := by decide +kernel
theorem dX13_token_87 : decode cX13_token 87 = .ok (.isub, 1) := by decide +kernel
theorem dX13_token_88 : decode cX13_token 88 = .ok (.iconst 5, 1) := by decide +kernel
theorem dX13_token_89 : decode cX13_token 89 = .ok (.if_icmp .ge 23, 3) := by decide +kernel
theorem dX13_token_92 : decode cX13_token 92 = .ok (.aload_n 0, 1) := by decide +kernel
theorem dX13_token_93 : decode cX13_token 93 = .ok (.aload_n 0, 1) := by decide +kernel
theorem dX13_token_94 : decode cX13_token 94 = .ok (.getfield 87, 3) := by decide +kernel
theorem dX13_token_97 : decode cX13_token 97 = .ok (.iconst 5, 1) := by decide +kernel
theorem dX13_token_98 : decode cX13_token 98 = .ok (.ishl, 1) := by decide +kernel
theorem dX13_token_99 : decode cX13_token 99 = .ok (.aload_n 0, 1) := by decide +kernel
theorem dX13_token_100 : decode cX13_token 100 = .ok (.invokevirtual 73, 3) := by decide +kernel
theorem dX13_token_103 : decode cX13_token 103 = .ok (.bipush 97, 2) := by decide +kernel
theorem dX13_token_105 : decode cX13_token 105 = .ok (.isub, 1) := by decide +kernel
theorem dX13_token_106 : decode cX13_token 106 = .ok (.iconst 1, 1) := by decide +kernel
theorem dX13_token_107 : decode cX13_token 107 = .ok (.iadd, 1) := by decide +kernel
theorem dX13_token_108 : decode cX13_token 108 = .ok (.ior, 1) := by decide +kernel
theorem dX13_token_109 : decode cX13_token 109 = .ok (.putfield 87, 3) := by decide +kernel
theorem dX13_token_112 : decode cX13_token 112 = .ok (.aload_n 0, 1) := by decide +kernel
theorem dX13_token_113 : decode cX13_token 113 = .ok (.dup, 1) := by decide +kernel
theorem dX13_token_114 : decode cX13_token 114 = .ok (.getfield 67, 3) := by decide +kernel
theorem dX13_token_117 : decode cX13_token 117 = .ok (.iconst 1, 1) := by decide +kernel
theorem dX13_token_118 : decode cX13_token 118 = .ok (.iadd, 1) := by decide +kernel
theorem dX13_token_119 : decode cX13_token 119 = .ok (.putfield 67, 3) := by decide +kernel
theorem dX13_token_122 : decode cX13_token 122 = .ok (.goto (-53), 3) := by decide +kernel
theorem dX13_token_125 : decode cX13_token 125 = .ok (.aload_n 0, 1) := by decide +kernel
theorem dX13_token_126 : decode cX13_token 126 = .ok (.aload_n 0, 1) := by decide +kernel
theorem dX13_token_127 : decode cX13_token 127 = .ok (.invokevirtual 90, 3) := by decide +kernel
theorem dX13_token_130 : decode cX13_token 130 = .ok (.putfield 93, 3) := by decide +kernel
theorem dX13_token_133 : decode cX13_token 133 = .ok (.aload_n 0, 1) := by decide +kernel
theorem dX13_token_134 : decode cX13_token 134 = .ok (.aload_n 0, 1) := by decide +kernel
theorem dX13_token_135 : decode cX13_token 135 = .ok (.getfield 67, 3) := by decide +kernel
theorem dX13_token_138 : decode cX13_token 138 = .ok (.aload_n 0, 1) := by decide +kernel
theorem dX13_token_139 : decode cX13_token 139 = .ok (.getfield 77, 3) := by decide +kernel
theorem dX13_token_142 : decode cX13_token 142 = .ok (.isub, 1) := by decide +kernel
theorem dX13_token_143 : decode cX13_token 143 = .ok (.iconst 5, 1) := by decide +kernel
theorem dX13_token_144 : decode cX13_token 144 = .ok (.if_icmp .le 11, 3) := by decide +kernel
theorem dX13_token_147 : decode cX13_token 147 = .ok (.aload_n 0, 1) := by decide +kernel
theorem dX13_token_148 : decode cX13_token 148 = .ok (.getfield 93, 3) := by decide +kernel
theorem dX13_token_151 : decode cX13_token 151 = .ok (.iconst (-1), 1) := by decide +kernel
theorem dX13_token_152 : decode cX13_token 152 = .ok (.if_icmp .eq 7, 3) := by decide +kernel
theorem dX13_token_155 : decode cX13_token 155 = .ok (.iconst 0, 1) := by decide +kernel
theorem dX13_token_156 : decode cX13_token 156 = .ok (.goto 4, 3) := by decide +kernel
theorem dX13_token_159 : decode cX13_token 159 = .ok (.iconst 4, 1) := by decide +kernel
theorem dX13_token_160 : decode cX13_token 160 = .ok (.putfield 80, 3) := by decide +kernel
theorem dX13_token_163 : decode cX13_token 163 = .ok (.goto 103, 3) := by decide +kernel
theorem dX13_token_166 : decode cX13_token 166 = .ok (.iload_n 1, 1) := by decide +kernel
theorem dX13_token_167 : decode cX13_token 167 = .ok (.invokestatic 96, 3) := by decide +kernel
theorem dX13_token_170 : decode cX13_token 170 = .ok (.ifCond .eq 71, 3) := by decide +kernel
theorem dX13_token_173 : decode cX13_token 173 = .ok (.aload_n 0, 1) := by decide +kernel
theorem dX13_token_174 : decode cX13_token 174 = .ok (.iconst 1, 1) := by decide +kernel
theorem dX13_token_175 : decode cX13_token 175 = .ok (.putfield 80, 3) := by decide +kernel
theorem dX13_token_178 : decode cX13_token 178 = .ok (.aload_n 0, 1) := by decide +kernel
theorem dX13_token_179 : decode cX13_token 179 = .ok (.iconst 0, 1) := by decide +kernel
theorem dX13_token_180 : decode cX13_token 180 = .ok (.putfield 93, 3) := by decide +kernel
theorem dX13_token_183 : decode cX13_token 183 = .ok (.aload_n 0, 1) := by decide +kernel
theorem dX13_token_184 : decode cX13_token 184 = .ok (.invokevirtual 73, 3) := by decide +kernel
theorem dX13_token_187 : decode cX13_token 187 = .ok (.invokestatic 96, 3) := by decide +kernel
theorem dX13_token_190 : decode cX13_token 190 = .ok (.ifCond .eq 76, 3) := by decide +kernel
theorem dX13_token_193 : decode cX13_token 193 = .ok (.aload_n 0, 1) := by decide +kernel
theorem dX13_token_194 : decode cX13_token 194 = .ok (.aload_n 0, 1) := by decide +kernel
theorem dX13_token_195 : decode cX13_token 195 = .ok (.getfield 93, 3) := by decide +kernel
theorem dX13_token_198 : decode cX13_token 198 = .ok (.ldc 99, 2) := by decide +kernel
theorem dX13_token_200 : decode cX13_token 200 = .ok (.if_icmp .le 10, 3) := by decide +kernel
theorem dX13_token_203 : decode cX13_token 203 = .ok (.aload_n 0, 1) := by decide +kernel
theorem dX13_token_204 : decode cX13_token 204 = .ok (.getfield 93, 3) := by decide +kernel
theorem dX13_token_207 : decode cX13_token 207 = .ok (.goto 18, 3) := by decide +kernel
theorem dX13_token_210 : decode cX13_token 210 = .ok (.bipush 10, 2) := by decide +kernel
theorem dX13_token_212 : decode cX13_token 212 = .ok (.aload_n 0, 1) := by decide +kernel
theorem dX13_token_213 : decode cX13_token 213 = .ok (.getfield 93, 3) := by decide +kernel
theorem dX13_token_216 : decode cX13_token 216 = .ok (.imul, 1) := by decide +kernel
theorem dX13_token_217 : decode cX13_token 217 = .ok (.aload_n 0, 1) := by decide +kernel
theorem dX13_token_218 : decode cX13_token 218 = .ok (.invokevirtual 73, 3) := by decide +kernel
theorem dX13_token_221 : decode cX13_token 221 = .ok (.iadd, 1) := by decide +kernel
theorem dX13_token_222 : decode cX13_token 222 = .ok (.bipush 48, 2) := by decide +kernel
theorem dX13_token_224 : decode cX13_token 224 = .ok (.isub, 1) := by decide +kernel
theorem dX13_token_225 : decode cX13_token 225 = .ok (.putfield 93, 3) := by decide +kernel
theorem dX13_token_228 : decode cX13_token 228 = .ok (.aload_n 0, 1) := by decide +kernel
theorem dX13_token_229 : decode cX13_token 229 = .ok (.dup, 1) := by decide +kernel
theorem dX13_token_230 : decode cX13_token 230 = .ok (.getfield 67, 3) := by decide +kernel
theorem dX13_token_233 : decode cX13_token 233 = .ok (.iconst 1, 1) := by decide +kernel
theorem dX13_token_234 : decode cX13_token 234 = .ok (.iadd, 1) := by decide +kernel
theorem dX13_token_235 : decode cX13_token 235 = .ok (.putfield 67, 3) := by decide +kernel
theorem dX13_token_238 : decode cX13_token 238 = .ok (.goto (-55), 3) := by decide +kernel
theorem dX13_token_241 : decode cX13_token 241 = .ok (.aload_n 0, 1) := by decide +kernel
theorem dX13_token_242 : decode cX13_token 242 = .ok (.iload_n 1, 1) := by decide +kernel
theorem dX13_token_243 : decode cX13_token 243 = .ok (.bipush 59, 2) := by decide +kernel
theorem dX13_token_245 : decode cX13_token 245 = .ok (.if_icmp .ne 7, 3) := by decide +kernel
theorem dX13_token_248 : decode cX13_token 248 = .ok (.iconst 2, 1) := by decide +kernel
theorem dX13_token_249 : decode cX13_token 249 = .ok (.goto 4, 3) := by decide +kernel
theorem dX13_token_252 : decode cX13_token 252 = .ok (.iconst 4, 1) := by decide +kernel
theorem dX13_token_253 : decode cX13_token 253 = .ok (.putfield 80, 3) := by decide +kernel
theorem dX13_token_256 : decode cX13_token 256 = .ok (.aload_n 0, 1) := by decide +kernel
theorem dX13_token_257 : decode cX13_token 257 = .ok (.dup, 1) := by decide +kernel
theorem dX13_token_258 : decode cX13_token 258 = .ok (.getfield 67, 3) := by decide +kernel
theorem dX13_token_261 : decode cX13_token 261 = .ok (.iconst 1, 1) := by decide +kernel
theorem dX13_token_262 : decode cX13_token 262 = .ok (.iadd, 1) := by decide +kernel
theorem dX13_token_263 : decode cX13_token 263 = .ok (.putfield 67, 3) := by decide +kernel
theorem dX13_token_266 : decode cX13_token 266 = .ok (.return_, 1) := by decide +kernel
theorem dX13_wordHere_0 : decode cX13_wordHere 0 = .ok (.iconst 0, 1) := by decide +kernel
theorem dX13_wordHere_1 : decode cX13_wordHere 1 = .ok (.istore_n 1, 1) := by decide +kernel
theorem dX13_wordHere_2 : decode cX13_wordHere 2 = .ok (.iconst 0, 1) := by decide +kernel
theorem dX13_wordHere_3 : decode cX13_wordHere 3 = .ok (.istore_n 2, 1) := by decide +kernel
theorem dX13_wordHere_4 : decode cX13_wordHere 4 = .ok (.iload_n 2, 1) := by decide +kernel
theorem dX13_wordHere_5 : decode cX13_wordHere 5 = .ok (.ldc 100, 2) := by decide +kernel
theorem dX13_wordHere_7 : decode cX13_wordHere 7 = .ok (.invokevirtual 102, 3) := by decide +kernel
theorem dX13_wordHere_10 : decode cX13_wordHere 10 = .ok (.if_icmp .ge 113, 3) := by decide +kernel
theorem dX13_wordHere_13 : decode cX13_wordHere 13 = .ok (.iconst 0, 1) := by decide +kernel
theorem dX13_wordHere_14 : decode cX13_wordHere 14 = .ok (.istore_n 3, 1) := by decide +kernel
theorem dX13_wordHere_15 : decode cX13_wordHere 15 = .ok (.ldc 100, 2) := by decide +kernel
theorem dX13_wordHere_17 : decode cX13_wordHere 17 = .ok (.iload_n 2, 1) := by decide +kernel
theorem dX13_wordHere_18 : decode cX13_wordHere 18 = .ok (.iload_n 3, 1) := by decide +kernel
theorem dX13_wordHere_19 : decode cX13_wordHere 19 = .ok (.iadd, 1) := by decide +kernel
theorem dX13_wordHere_20 : decode cX13_wordHere 20 = .ok (.invokevirtual 107, 3) := by decide +kernel
theorem dX13_wordHere_23 : decode cX13_wordHere 23 = .ok (.bipush 32, 2) := by decide +kernel
theorem dX13_wordHere_25 : decode cX13_wordHere 25 = .ok (.if_icmp .eq 44, 3) := by decide +kernel
theorem dX13_wordHere_28 : decode cX13_wordHere 28 = .ok (.aload_n 0, 1) := by decide +kernel
theorem dX13_wordHere_29 : decode cX13_wordHere 29 = .ok (.getfield 77, 3) := by decide +kernel
theorem dX13_wordHere_32 : decode cX13_wordHere 32 = .ok (.iload_n 3, 1) := by decide +kernel
theorem dX13_wordHere_33 : decode cX13_wordHere 33 = .ok (.iadd, 1) := by decide +kernel
theorem dX13_wordHere_34 : decode cX13_wordHere 34 = .ok (.aload_n 0, 1) := by decide +kernel
theorem dX13_wordHere_35 : decode cX13_wordHere 35 = .ok (.getfield 67, 3) := by decide +kernel
theorem dX13_wordHere_38 : decode cX13_wordHere 38 = .ok (.if_icmp .ge 31, 3) := by decide +kernel
theorem dX13_wordHere_41 : decode cX13_wordHere 41 = .ok (.aload_n 0, 1) := by decide +kernel
theorem dX13_wordHere_42 : decode cX13_wordHere 42 = .ok (.getfield 7, 3) := by decide +kernel
theorem dX13_wordHere_45 : decode cX13_wordHere 45 = .ok (.aload_n 0, 1) := by decide +kernel
theorem dX13_wordHere_46 : decode cX13_wordHere 46 = .ok (.getfield 77, 3) := by decide +kernel
theorem dX13_wordHere_49 : decode cX13_wordHere 49 = .ok (.iload_n 3, 1) := by decide +kernel
theorem dX13_wordHere_50 : decode cX13_wordHere 50 = .ok (.iadd, 1) := by decide +kernel
theorem dX13_wordHere_51 : decode cX13_wordHere 51 = .ok (.iaload, 1) := by decide +kernel
theorem dX13_wordHere_52 : decode cX13_wordHere 52 = .ok (.ldc 100, 2) := by decide +kernel
theorem dX13_wordHere_54 : decode cX13_wordHere 54 = .ok (.iload_n 2, 1) := by decide +kernel
theorem dX13_wordHere_55 : decode cX13_wordHere 55 = .ok (.iload_n 3, 1) := by decide +kernel
theorem dX13_wordHere_56 : decode cX13_wordHere 56 = .ok (.iadd, 1) := by decide +kernel
theorem dX13_wordHere_57 : decode cX13_wordHere 57 = .ok (.invokevirtual 107, 3) := by decide +kernel
theorem dX13_wordHere_60 : decode cX13_wordHere 60 = .ok (.if_icmp .ne 9, 3) := by decide +kernel
theorem dX13_wordHere_63 : decode cX13_wordHere 63 = .ok (.iinc 3 1, 3) := by decide +kernel
theorem dX13_wordHere_66 : decode cX13_wordHere 66 = .ok (.goto (-51), 3) := by decide +kernel
theorem dX13_wordHere_69 : decode cX13_wordHere 69 = .ok (.ldc 100, 2) := by decide +kernel
theorem dX13_wordHere_71 : decode cX13_wordHere 71 = .ok (.iload_n 2, 1) := by decide +kernel
theorem dX13_wordHere_72 : decode cX13_wordHere 72 = .ok (.iload_n 3, 1) := by decide +kernel
theorem dX13_wordHere_73 : decode cX13_wordHere 73 = .ok (.iadd, 1) := by decide +kernel
theorem dX13_wordHere_74 : decode cX13_wordHere 74 = .ok (.invokevirtual 107, 3) := by decide +kernel
theorem dX13_wordHere_77 : decode cX13_wordHere 77 = .ok (.bipush 32, 2) := by decide +kernel
theorem dX13_wordHere_79 : decode cX13_wordHere 79 = .ok (.if_icmp .ne 18, 3) := by decide +kernel
theorem dX13_wordHere_82 : decode cX13_wordHere 82 = .ok (.aload_n 0, 1) := by decide +kernel
theorem dX13_wordHere_83 : decode cX13_wordHere 83 = .ok (.getfield 77, 3) := by decide +kernel
theorem dX13_wordHere_86 : decode cX13_wordHere 86 = .ok (.iload_n 3, 1) := by decide +kernel
theorem dX13_wordHere_87 : decode cX13_wordHere 87 = .ok (.iadd, 1) := by decide +kernel
theorem dX13_wordHere_88 : decode cX13_wordHere 88 = .ok (.aload_n 0, 1) := by decide +kernel
theorem dX13_wordHere_89 : decode cX13_wordHere 89 = .ok (.getfield 67, 3) := by decide +kernel
theorem dX13_wordHere_92 : decode cX13_wordHere 92 = .ok (.if_icmp .ne 5, 3) := by decide +kernel
theorem dX13_wordHere_95 : decode cX13_wordHere 95 = .ok (.iload_n 1, 1) := by decide +kernel
theorem dX13_wordHere_96 : decode cX13_wordHere 96 = .ok (.ireturn, 1) := by decide +kernel
theorem dX13_wordHere_97 : decode cX13_wordHere 97 = .ok (.ldc 100, 2) := by decide +kernel
theorem dX13_wordHere_99 : decode cX13_wordHere 99 = .ok (.iload_n 2, 1) := by decide +kernel
theorem dX13_wordHere_100 : decode cX13_wordHere 100 = .ok (.invokevirtual 107, 3) := by decide +kernel
theorem dX13_wordHere_103 : decode cX13_wordHere 103 = .ok (.bipush 32, 2) := by decide +kernel
theorem dX13_wordHere_105 : decode cX13_wordHere 105 = .ok (.if_icmp .eq 9, 3) := by decide +kernel
theorem dX13_wordHere_108 : decode cX13_wordHere 108 = .ok (.iinc 2 1, 3) := by decide +kernel
theorem dX13_wordHere_111 : decode cX13_wordHere 111 = .ok (.goto (-14), 3) := by decide +kernel
theorem dX13_wordHere_114 : decode cX13_wordHere 114 = .ok (.iinc 2 1, 3) := by decide +kernel
theorem dX13_wordHere_117 : decode cX13_wordHere 117 = .ok (.iinc 1 1, 3) := by decide +kernel
theorem dX13_wordHere_120 : decode cX13_wordHere 120 = .ok (.goto (-116), 3) := by decide +kernel
theorem dX13_wordHere_123 : decode cX13_wordHere 123 = .ok (.iconst (-1), 1) := by decide +kernel
theorem dX13_wordHere_124 : decode cX13_wordHere 124 = .ok (.ireturn, 1) := by decide +kernel
theorem dX13_wrong_0 : decode cX13_wrong 0 = .ok (.aload_n 0, 1) := by decide +kernel
theorem dX13_wrong_1 : decode cX13_wrong 1 = .ok (.getfield 111, 3) := by decide +kernel
theorem dX13_wrong_4 : decode cX13_wrong 4 = .ok (.ifCond .eq 4, 3) := by decide +kernel
theorem dX13_wrong_7 : decode cX13_wrong 7 = .ok (.return_, 1) := by decide +kernel
theorem dX13_wrong_8 : decode cX13_wrong 8 = .ok (.aload_n 0, 1) := by decide +kernel
theorem dX13_wrong_9 : decode cX13_wrong 9 = .ok (.iload_n 1, 1) := by decide +kernel
theorem dX13_wrong_10 : decode cX13_wrong 10 = .ok (.putfield 111, 3) := by decide +kernel
theorem dX13_wrong_13 : decode cX13_wrong 13 = .ok (.aload_n 0, 1) := by decide +kernel
theorem dX13_wrong_14 : decode cX13_wrong 14 = .ok (.aload_n 0, 1) := by decide +kernel
theorem dX13_wrong_15 : decode cX13_wrong 15 = .ok (.getfield 77, 3) := by decide +kernel
theorem dX13_wrong_18 : decode cX13_wrong 18 = .ok (.putfield 114, 3) := by decide +kernel
theorem dX13_wrong_21 : decode cX13_wrong 21 = .ok (.return_, 1) := by decide +kernel
theorem dX13_goOn_0 : decode cX13_goOn 0 = .ok (.aload_n 0, 1) := by decide +kernel
theorem dX13_goOn_1 : decode cX13_goOn 1 = .ok (.getfield 111, 3) := by decide +kernel
theorem dX13_goOn_4 : decode cX13_goOn 4 = .ok (.ifCond .ne 7, 3) := by decide +kernel
theorem dX13_goOn_7 : decode cX13_goOn 7 = .ok (.aload_n 0, 1) := by decide +kernel
theorem dX13_goOn_8 : decode cX13_goOn 8 = .ok (.invokevirtual 117, 3) := by decide +kernel
theorem dX13_goOn_11 : decode cX13_goOn 11 = .ok (.return_, 1) := by decide +kernel
theorem dX13_isWord_0 : decode cX13_isWord 0 = .ok (.aload_n 0, 1) := by decide +kernel
theorem dX13_isWord_1 : decode cX13_isWord 1 = .ok (.getfield 111, 3) := by decide +kernel
theorem dX13_isWord_4 : decode cX13_isWord 4 = .ok (.ifCond .ne 22, 3) := by decide +kernel
theorem dX13_isWord_7 : decode cX13_isWord 7 = .ok (.aload_n 0, 1) := by decide +kernel
theorem dX13_isWord_8 : decode cX13_isWord 8 = .ok (.getfield 80, 3) := by decide +kernel
theorem dX13_isWord_11 : decode cX13_isWord 11 = .ok (.ifCond .ne 15, 3) := by decide +kernel
theorem dX13_isWord_14 : decode cX13_isWord 14 = .ok (.aload_n 0, 1) := by decide +kernel
theorem dX13_isWord_15 : decode cX13_isWord 15 = .ok (.getfield 93, 3) := by decide +kernel
theorem dX13_isWord_18 : decode cX13_isWord 18 = .ok (.iload_n 1, 1) := by decide +kernel
theorem dX13_isWord_19 : decode cX13_isWord 19 = .ok (.if_icmp .ne 7, 3) := by decide +kernel
theorem dX13_isWord_22 : decode cX13_isWord 22 = .ok (.iconst 1, 1) := by decide +kernel
theorem dX13_isWord_23 : decode cX13_isWord 23 = .ok (.goto 4, 3) := by decide +kernel
theorem dX13_isWord_26 : decode cX13_isWord 26 = .ok (.iconst 0, 1) := by decide +kernel
theorem dX13_isWord_27 : decode cX13_isWord 27 = .ok (.ireturn, 1) := by decide +kernel
theorem dX13_isOther_0 : decode cX13_isOther 0 = .ok (.aload_n 0, 1) := by decide +kernel
theorem dX13_isOther_1 : decode cX13_isOther 1 = .ok (.getfield 80, 3) := by decide +kernel
theorem dX13_isOther_4 : decode cX13_isOther 4 = .ok (.ifCond .ne 15, 3) := by decide +kernel
theorem dX13_isOther_7 : decode cX13_isOther 7 = .ok (.aload_n 0, 1) := by decide +kernel
theorem dX13_isOther_8 : decode cX13_isOther 8 = .ok (.getfield 93, 3) := by decide +kernel
theorem dX13_isOther_11 : decode cX13_isOther 11 = .ok (.iconst (-1), 1) := by decide +kernel
theorem dX13_isOther_12 : decode cX13_isOther 12 = .ok (.if_icmp .ne 7, 3) := by decide +kernel
theorem dX13_isOther_15 : decode cX13_isOther 15 = .ok (.iconst 1, 1) := by decide +kernel
theorem dX13_isOther_16 : decode cX13_isOther 16 = .ok (.goto 4, 3) := by decide +kernel
theorem dX13_isOther_19 : decode cX13_isOther 19 = .ok (.iconst 0, 1) := by decide +kernel
theorem dX13_isOther_20 : decode cX13_isOther 20 = .ok (.ireturn, 1) := by decide +kernel
theorem dX13_numberHere_0 : decode cX13_numberHere 0 = .ok (.aload_n 0, 1) := by decide +kernel
theorem dX13_numberHere_1 : decode cX13_numberHere 1 = .ok (.getfield 111, 3) := by decide +kernel
theorem dX13_numberHere_4 : decode cX13_numberHere 4 = .ok (.ifCond .ne 16, 3) := by decide +kernel
theorem dX13_numberHere_7 : decode cX13_numberHere 7 = .ok (.aload_n 0, 1) := by decide +kernel
theorem dX13_numberHere_8 : decode cX13_numberHere 8 = .ok (.getfield 80, 3) := by decide +kernel
theorem dX13_numberHere_11 : decode cX13_numberHere 11 = .ok (.iconst 1, 1) := by decide +kernel
theorem dX13_numberHere_12 : decode cX13_numberHere 12 = .ok (.if_icmp .eq 8, 3) := by decide +kernel
theorem dX13_numberHere_15 : decode cX13_numberHere 15 = .ok (.aload_n 0, 1) := by decide +kernel
theorem dX13_numberHere_16 : decode cX13_numberHere 16 = .ok (.iconst 1, 1) := by decide +kernel
theorem dX13_numberHere_17 : decode cX13_numberHere 17 = .ok (.invokevirtual 120, 3) := by decide +kernel
theorem dX13_numberHere_20 : decode cX13_numberHere 20 = .ok (.aload_n 0, 1) := by decide +kernel
theorem dX13_numberHere_21 : decode cX13_numberHere 21 = .ok (.getfield 111, 3) := by decide +kernel
theorem dX13_numberHere_24 : decode cX13_numberHere 24 = .ok (.ifCond .ne 24, 3) := by decide +kernel
theorem dX13_numberHere_27 : decode cX13_numberHere 27 = .ok (.aload_n 0, 1) := by decide +kernel
theorem dX13_numberHere_28 : decode cX13_numberHere 28 = .ok (.getfield 93, 3) := by decide +kernel
theorem dX13_numberHere_31 : decode cX13_numberHere 31 = .ok (.iload_n 1, 1) := by decide +kernel
theorem dX13_numberHere_32 : decode cX13_numberHere 32 = .ok (.if_icmp .lt 11, 3) := by decide +kernel
theorem dX13_numberHere_35 : decode cX13_numberHere 35 = .ok (.aload_n 0, 1) := by decide +kernel
theorem dX13_numberHere_36 : decode cX13_numberHere 36 = .ok (.getfield 93, 3) := by decide +kernel
theorem dX13_numberHere_39 : decode cX13_numberHere 39 = .ok (.iload_n 2, 1) := by decide +kernel
theorem dX13_numberHere_40 : decode cX13_numberHere 40 = .ok (.if_icmp .le 8, 3) := by decide +kernel
theorem dX13_numberHere_43 : decode cX13_numberHere 43 = .ok (.aload_n 0, 1) := by decide +kernel
theorem dX13_numberHere_44 : decode cX13_numberHere 44 = .ok (.iconst 2, 1) := by decide +kernel
theorem dX13_numberHere_45 : decode cX13_numberHere 45 = .ok (.invokevirtual 120, 3) := by decide +kernel
theorem dX13_numberHere_48 : decode cX13_numberHere 48 = .ok (.aload_n 0, 1) := by decide +kernel
theorem dX13_numberHere_49 : decode cX13_numberHere 49 = .ok (.getfield 111, 3) := by decide +kernel
theorem dX13_numberHere_52 : decode cX13_numberHere 52 = .ok (.ifCond .ne 10, 3) := by decide +kernel
theorem dX13_numberHere_55 : decode cX13_numberHere 55 = .ok (.aload_n 0, 1) := by decide +kernel
theorem dX13_numberHere_56 : decode cX13_numberHere 56 = .ok (.getfield 93, 3) := by decide +kernel
theorem dX13_numberHere_59 : decode cX13_numberHere 59 = .ok (.goto 4, 3) := by decide +kernel
theorem dX13_numberHere_62 : decode cX13_numberHere 62 = .ok (.iload_n 1, 1) := by decide +kernel
theorem dX13_numberHere_63 : decode cX13_numberHere 63 = .ok (.ireturn, 1) := by decide +kernel
theorem dX13_number_0 : decode cX13_number 0 = .ok (.aload_n 0, 1) := by decide +kernel
theorem dX13_number_1 : decode cX13_number 1 = .ok (.iload_n 1, 1) := by decide +kernel
theorem dX13_number_2 : decode cX13_number 2 = .ok (.iload_n 2, 1) := by decide +kernel
theorem dX13_number_3 : decode cX13_number 3 = .ok (.invokevirtual 124, 3) := by decide +kernel
theorem dX13_number_6 : decode cX13_number 6 = .ok (.istore_n 3, 1) := by decide +kernel
theorem dX13_number_7 : decode cX13_number 7 = .ok (.aload_n 0, 1) := by decide +kernel
theorem dX13_number_8 : decode cX13_number 8 = .ok (.invokevirtual 128, 3) := by decide +kernel
theorem dX13_number_11 : decode cX13_number 11 = .ok (.iload_n 3, 1) := by decide +kernel
theorem dX13_number_12 : decode cX13_number 12 = .ok (.ireturn, 1) := by decide +kernel
theorem dX13_namedHere_0 : decode cX13_namedHere 0 = .ok (.iconst 0, 1) := by decide +kernel
theorem dX13_namedHere_1 : decode cX13_namedHere 1 = .ok (.istore_n 2, 1) := by decide +kernel
theorem dX13_namedHere_2 : decode cX13_namedHere 2 = .ok (.iload_n 2, 1) := by decide +kernel
theorem dX13_namedHere_3 : decode cX13_namedHere 3 = .ok (.aload_n 0, 1) := by decide +kernel
theorem dX13_namedHere_4 : decode cX13_namedHere 4 = .ok (.getfield 16, 3) := by decide +kernel
theorem dX13_namedHere_7 : decode cX13_namedHere 7 = .ok (.iload_n 1, 1) := by decide +kernel
theorem dX13_namedHere_8 : decode cX13_namedHere 8 = .ok (.iaload, 1) := by decide +kernel
theorem dX13_namedHere_9 : decode cX13_namedHere 9 = .ok (.if_icmp .ge 29, 3) := by decide +kernel
theorem dX13_namedHere_12 : decode cX13_namedHere 12 = .ok (.aload_n 0, 1) := by decide +kernel
theorem dX13_namedHere_13 : decode cX13_namedHere 13 = .ok (.getfield 34, 3) := by decide +kernel
theorem dX13_namedHere_16 : decode cX13_namedHere 16 = .ok (.bipush 12, 2) := by decide +kernel
theorem dX13_namedHere_18 : decode cX13_namedHere 18 = .ok (.iload_n 1, 1) := by decide +kernel
theorem dX13_namedHere_19 : decode cX13_namedHere 19 = .ok (.imul, 1) := by decide +kernel
theorem dX13_namedHere_20 : decode cX13_namedHere 20 = .ok (.iload_n 2, 1) := by decide +kernel
theorem dX13_namedHere_21 : decode cX13_namedHere 21 = .ok (.iadd, 1) := by decide +kernel
theorem dX13_namedHere_22 : decode cX13_namedHere 22 = .ok (.iaload, 1) := by decide +kernel
theorem dX13_namedHere_23 : decode cX13_namedHere 23 = .ok (.aload_n 0, 1) := by decide +kernel
theorem dX13_namedHere_24 : decode cX13_namedHere 24 = .ok (.getfield 87, 3) := by decide +kernel
theorem dX13_namedHere_27 : decode cX13_namedHere 27 = .ok (.if_icmp .ne 5, 3) := by decide +kernel
theorem dX13_namedHere_30 : decode cX13_namedHere 30 = .ok (.iload_n 2, 1) := by decide +kernel
theorem dX13_namedHere_31 : decode cX13_namedHere 31 = .ok (.ireturn, 1) := by decide +kernel
theorem dX13_namedHere_32 : decode cX13_namedHere 32 = .ok (.iinc 2 1, 3) := by decide +kernel
theorem dX13_namedHere_35 : decode cX13_namedHere 35 = .ok (.goto (-33), 3) := by decide +kernel
theorem dX13_namedHere_38 : decode cX13_namedHere 38 = .ok (.iconst (-1), 1) := by decide +kernel
theorem dX13_namedHere_39 : decode cX13_namedHere 39 = .ok (.ireturn, 1) := by decide +kernel
theorem dX13_toldHere_0 : decode cX13_toldHere 0 = .ok (.aload_n 0, 1) := by decide +kernel
theorem dX13_toldHere_1 : decode cX13_toldHere 1 = .ok (.getfield 111, 3) := by decide +kernel
theorem dX13_toldHere_4 : decode cX13_toldHere 4 = .ok (.ifCond .ne 24, 3) := by decide +kernel
theorem dX13_toldHere_7 : decode cX13_toldHere 7 = .ok (.aload_n 0, 1) := by decide +kernel
theorem dX13_toldHere_8 : decode cX13_toldHere 8 = .ok (.invokevirtual 131, 3) := by decide +kernel
theorem dX13_toldHere_11 : decode cX13_toldHere 11 = .ok (.ifCond .eq 12, 3) := by decide +kernel
theorem dX13_toldHere_14 : decode cX13_toldHere 14 = .ok (.aload_n 0, 1) := by decide +kernel
theorem dX13_toldHere_15 : decode cX13_toldHere 15 = .ok (.iload_n 1, 1) := by decide +kernel
theorem dX13_toldHere_16 : decode cX13_toldHere 16 = .ok (.invokevirtual 135, 3) := by decide +kernel
theorem dX13_toldHere_19 : decode cX13_toldHere 19 = .ok (.iconst (-1), 1) := by decide +kernel
theorem dX13_toldHere_20 : decode cX13_toldHere 20 = .ok (.if_icmp .ne 8, 3) := by decide +kernel
theorem dX13_toldHere_23 : decode cX13_toldHere 23 = .ok (.aload_n 0, 1) := by decide +kernel
theorem dX13_toldHere_24 : decode cX13_toldHere 24 = .ok (.iconst 1, 1) := by decide +kernel
theorem dX13_toldHere_25 : decode cX13_toldHere 25 = .ok (.invokevirtual 120, 3) := by decide +kernel
theorem dX13_toldHere_28 : decode cX13_toldHere 28 = .ok (.aload_n 0, 1) := by decide +kernel
theorem dX13_toldHere_29 : decode cX13_toldHere 29 = .ok (.getfield 111, 3) := by decide +kernel
theorem dX13_toldHere_32 : decode cX13_toldHere 32 = .ok (.ifCond .ne 11, 3) := by decide +kernel
theorem dX13_toldHere_35 : decode cX13_toldHere 35 = .ok (.aload_n 0, 1) := by decide +kernel
theorem dX13_toldHere_36 : decode cX13_toldHere 36 = .ok (.iload_n 1, 1) := by decide +kernel
theorem dX13_toldHere_37 : decode cX13_toldHere 37 = .ok (.invokevirtual 135, 3) := by decide +kernel
theorem dX13_toldHere_40 : decode cX13_toldHere 40 = .ok (.goto 4, 3) := by decide +kernel
theorem dX13_toldHere_43 : decode cX13_toldHere 43 = .ok (.iconst 0, 1) := by decide +kernel
theorem dX13_toldHere_44 : decode cX13_toldHere 44 = .ok (.ireturn, 1) := by decide +kernel
theorem dX13_told_0 : decode cX13_told 0 = .ok (.aload_n 0, 1) := by decide +kernel
theorem dX13_told_1 : decode cX13_told 1 = .ok (.iload_n 1, 1) := by decide +kernel
theorem dX13_told_2 : decode cX13_told 2 = .ok (.invokevirtual 139, 3) := by decide +kernel
theorem dX13_told_5 : decode cX13_told 5 = .ok (.istore_n 2, 1) := by decide +kernel
theorem dX13_told_6 : decode cX13_told 6 = .ok (.aload_n 0, 1) := by decide +kernel
theorem dX13_told_7 : decode cX13_told 7 = .ok (.invokevirtual 128, 3) := by decide +kernel
theorem dX13_told_10 : decode cX13_told 10 = .ok (.iload_n 2, 1) := by decide +kernel
theorem dX13_told_11 : decode cX13_told 11 = .ok (.ireturn, 1) := by decide +kernel
theorem dX13_newName_0 : decode cX13_newName 0 = .ok (.aload_n 0, 1) := by decide +kernel
theorem dX13_newName_1 : decode cX13_newName 1 = .ok (.getfield 111, 3) := by decide +kernel
theorem dX13_newName_4 : decode cX13_newName 4 = .ok (.ifCond .ne 15, 3) := by decide +kernel
theorem dX13_newName_7 : decode cX13_newName 7 = .ok (.aload_n 0, 1) := by decide +kernel
theorem dX13_newName_8 : decode cX13_newName 8 = .ok (.invokevirtual 131, 3) := by decide +kernel
theorem dX13_newName_11 : decode cX13_newName 11 = .ok (.ifCond .ne 8, 3) := by decide +kernel
theorem dX13_newName_14 : decode cX13_newName 14 = .ok (.aload_n 0, 1) := by decide +kernel
theorem dX13_newName_15 : decode cX13_newName 15 = .ok (.iconst 1, 1) := by decide +kernel
theorem dX13_newName_16 : decode cX13_newName 16 = .ok (.invokevirtual 120, 3) := by decide +kernel
theorem dX13_newName_19 : decode cX13_newName 19 = .ok (.aload_n 0, 1) := by decide +kernel
theorem dX13_newName_20 : decode cX13_newName 20 = .ok (.getfield 111, 3) := by decide +kernel
theorem dX13_newName_23 : decode cX13_newName 23 = .ok (.ifCond .ne 17, 3) := by decide +kernel
theorem dX13_newName_26 : decode cX13_newName 26 = .ok (.aload_n 0, 1) := by decide +kernel
theorem dX13_newName_27 : decode cX13_newName 27 = .ok (.iload_n 1, 1) := by decide +kernel
theorem dX13_newName_28 : decode cX13_newName 28 = .ok (.invokevirtual 135, 3) := by decide +kernel
theorem dX13_newName_31 : decode cX13_newName 31 = .ok (.iconst (-1), 1) := by decide +kernel
theorem dX13_newName_32 : decode cX13_newName 32 = .ok (.if_icmp .eq 8, 3) := by decide +kernel
theorem dX13_newName_35 : decode cX13_newName 35 = .ok (.aload_n 0, 1) := by decide +kernel
theorem dX13_newName_36 : decode cX13_newName 36 = .ok (.iconst 3, 1) := by decide +kernel
theorem dX13_newName_37 : decode cX13_newName 37 = .ok (.invokevirtual 120, 3) := by decide +kernel
theorem dX13_newName_40 : decode cX13_newName 40 = .ok (.aload_n 0, 1) := by decide +kernel
theorem dX13_newName_41 : decode cX13_newName 41 = .ok (.getfield 111, 3) := by decide +kernel
theorem dX13_newName_44 : decode cX13_newName 44 = .ok (.ifCond .ne 23, 3) := by decide +kernel
theorem dX13_newName_47 : decode cX13_newName 47 = .ok (.aload_n 0, 1) := by decide +kernel
theorem dX13_newName_48 : decode cX13_newName 48 = .ok (.getfield 34, 3) := by decide +kernel
theorem dX13_newName_51 : decode cX13_newName 51 = .ok (.bipush 12, 2) := by decide +kernel
theorem dX13_newName_53 : decode cX13_newName 53 = .ok (.iload_n 1, 1) := by decide +kernel
theorem dX13_newName_54 : decode cX13_newName 54 = .ok (.imul, 1) := by decide +kernel
theorem dX13_newName_55 : decode cX13_newName 55 = .ok (.aload_n 0, 1) := by decide +kernel
theorem dX13_newName_56 : decode cX13_newName 56 = .ok (.getfield 16, 3) := by decide +kernel
theorem dX13_newName_59 : decode cX13_newName 59 = .ok (.iload_n 1, 1) := by decide +kernel
theorem dX13_newName_60 : decode cX13_newName 60 = .ok (.iaload, 1) := by decide +kernel
theorem dX13_newName_61 : decode cX13_newName 61 = .ok (.iadd, 1) := by decide +kernel
theorem dX13_newName_62 : decode cX13_newName 62 = .ok (.aload_n 0, 1) := by decide +kernel
theorem dX13_newName_63 : decode cX13_newName 63 = .ok (.getfield 87, 3) := by decide +kernel
theorem dX13_newName_66 : decode cX13_newName 66 = .ok (.iastore, 1) := by decide +kernel
theorem dX13_newName_67 : decode cX13_newName 67 = .ok (.aload_n 0, 1) := by decide +kernel
theorem dX13_newName_68 : decode cX13_newName 68 = .ok (.invokevirtual 128, 3) := by decide +kernel
theorem dX13_newName_71 : decode cX13_newName 71 = .ok (.return_, 1) := by decide +kernel
theorem dX13_readLand_0 : decode cX13_readLand 0 = .ok (.aload_n 0, 1) := by decide +kernel
theorem dX13_readLand_1 : decode cX13_readLand 1 = .ok (.invokevirtual 128, 3) := by decide +kernel
theorem dX13_readLand_4 : decode cX13_readLand 4 = .ok (.aload_n 0, 1) := by decide +kernel
theorem dX13_readLand_5 : decode cX13_readLand 5 = .ok (.iconst 0, 1) := by decide +kernel
theorem dX13_readLand_6 : decode cX13_readLand 6 = .ok (.iconst 1, 1) := by decide +kernel
theorem dX13_readLand_7 : decode cX13_readLand 7 = .ok (.invokevirtual 124, 3) := by decide +kernel
theorem dX13_readLand_10 : decode cX13_readLand 10 = .ok (.istore_n 1, 1) := by decide +kernel
theorem dX13_readLand_11 : decode cX13_readLand 11 = .ok (.aload_n 0, 1) := by decide +kernel
theorem dX13_readLand_12 : decode cX13_readLand 12 = .ok (.getfield 111, 3) := by decide +kernel
theorem dX13_readLand_15 : decode cX13_readLand 15 = .ok (.ifCond .ne 17, 3) := by decide +kernel
theorem dX13_readLand_18 : decode cX13_readLand 18 = .ok (.aload_n 0, 1) := by decide +kernel
theorem dX13_readLand_19 : decode cX13_readLand 19 = .ok (.getfield 41, 3) := by decide +kernel
theorem dX13_readLand_22 : decode cX13_readLand 22 = .ok (.iload_n 1, 1) := by decide +kernel
theorem dX13_readLand_23 : decode cX13_readLand 23 = .ok (.baload, 1) := by decide +kernel
theorem dX13_readLand_24 : decode cX13_readLand 24 = .ok (.ifCond .eq 8, 3) := by decide +kernel
theorem dX13_readLand_27 : decode cX13_readLand 27 = .ok (.aload_n 0, 1) := by decide +kernel
theorem dX13_readLand_28 : decode cX13_readLand 28 = .ok (.iconst 3, 1) := by decide +kernel
theorem dX13_readLand_29 : decode cX13_readLand 29 = .ok (.invokevirtual 120, 3) := by decide +kernel
theorem dX13_readLand_32 : decode cX13_readLand 32 = .ok (.aload_n 0, 1) := by decide +kernel
theorem dX13_readLand_33 : decode cX13_readLand 33 = .ok (.invokevirtual 128, 3) := by decide +kernel
theorem dX13_readLand_36 : decode cX13_readLand 36 = .ok (.aload_n 0, 1) := by decide +kernel
theorem dX13_readLand_37 : decode cX13_readLand 37 = .ok (.getfield 41, 3) := by decide +kernel
theorem dX13_readLand_40 : decode cX13_readLand 40 = .ok (.iload_n 1, 1) := by decide +kernel
theorem dX13_readLand_41 : decode cX13_readLand 41 = .ok (.iconst 1, 1) := by decide +kernel
theorem dX13_readLand_42 : decode cX13_readLand 42 = .ok (.bastore, 1) := by decide +kernel
theorem dX13_readLand_43 : decode cX13_readLand 43 = .ok (.iconst 4, 1) := by decide +kernel
theorem dX13_readLand_44 : decode cX13_readLand 44 = .ok (.iconst 5, 1) := by decide +kernel
theorem dX13_readLand_45 : decode cX13_readLand 45 = .ok (.iload_n 1, 1) := by decide +kernel
theorem dX13_readLand_46 : decode cX13_readLand 46 = .ok (.imul, 1) := by decide +kernel
theorem dX13_readLand_47 : decode cX13_readLand 47 = .ok (.iadd, 1) := by decide +kernel
theorem dX13_readLand_48 : decode cX13_readLand 48 = .ok (.istore_n 2, 1) := by decide +kernel
theorem dX13_readLand_49 : decode cX13_readLand 49 = .ok (.aload_n 0, 1) := by decide +kernel
theorem dX13_readLand_50 : decode cX13_readLand 50 = .ok (.getfield 16, 3) := by decide +kernel
theorem dX13_readLand_53 : decode cX13_readLand 53 = .ok (.iload_n 2, 1) := by decide +kernel
theorem dX13_readLand_54 : decode cX13_readLand 54 = .ok (.aload_n 0, 1) := by decide +kernel
theorem dX13_readLand_55 : decode cX13_readLand 55 = .ok (.iconst 0, 1) := by decide +kernel
theorem dX13_readLand_56 : decode cX13_readLand 56 = .ok (.iconst 4, 1) := by decide +kernel
theorem dX13_readLand_57 : decode cX13_readLand 57 = .ok (.invokevirtual 142, 3) := by decide +kernel
theorem dX13_readLand_60 : decode cX13_readLand 60 = .ok (.iastore, 1) := by decide +kernel
theorem dX13_readLand_61 : decode cX13_readLand 61 = .ok (.aload_n 0, 1) := by decide +kernel
theorem dX13_readLand_62 : decode cX13_readLand 62 = .ok (.bipush 8, 2) := by decide +kernel
theorem dX13_readLand_64 : decode cX13_readLand 64 = .ok (.invokevirtual 145, 3) := by decide +kernel
theorem dX13_readLand_67 : decode cX13_readLand 67 = .ok (.ifCond .ne 29, 3) := by decide +kernel
theorem dX13_readLand_70 : decode cX13_readLand 70 = .ok (.aload_n 0, 1) := by decide +kernel
theorem dX13_readLand_71 : decode cX13_readLand 71 = .ok (.iconst 3, 1) := by decide +kernel
theorem dX13_readLand_72 : decode cX13_readLand 72 = .ok (.invokevirtual 145, 3) := by decide +kernel
theorem dX13_readLand_75 : decode cX13_readLand 75 = .ok (.ifCond .ne 21, 3) := by decide +kernel
theorem dX13_readLand_78 : decode cX13_readLand 78 = .ok (.aload_n 0, 1) := by decide +kernel
theorem dX13_readLand_79 : decode cX13_readLand 79 = .ok (.bipush 9, 2) := by decide +kernel
theorem dX13_readLand_81 : decode cX13_readLand 81 = .ok (.invokevirtual 145, 3) := by decide +kernel
theorem dX13_readLand_84 : decode cX13_readLand 84 = .ok (.ifCond .ne 12, 3) := by decide +kernel
theorem dX13_readLand_87 : decode cX13_readLand 87 = .ok (.aload_n 0, 1) := by decide +kernel
theorem dX13_readLand_88 : decode cX13_readLand 88 = .ok (.bipush 10, 2) := by decide +kernel
theorem dX13_readLand_90 : decode cX13_readLand 90 = .ok (.invokevirtual 145, 3) := by decide +kernel
theorem dX13_readLand_93 : decode cX13_readLand 93 = .ok (.ifCond .eq 76, 3) := by decide +kernel
theorem dX13_readLand_96 : decode cX13_readLand 96 = .ok (.aload_n 0, 1) := by decide +kernel
theorem dX13_readLand_97 : decode cX13_readLand 97 = .ok (.getfield 93, 3) := by decide +kernel
theorem dX13_readLand_100 : decode cX13_readLand 100 = .ok (.bipush 8, 2) := by decide +kernel
theorem dX13_readLand_102 : decode cX13_readLand 102 = .ok (.if_icmp .ne 7, 3) := by decide +kernel
theorem dX13_readLand_105 : decode cX13_readLand 105 = .ok (.iconst 1, 1) := by decide +kernel
theorem dX13_readLand_106 : decode cX13_readLand 106 = .ok (.goto 29, 3) := by decide +kernel
theorem dX13_readLand_109 : decode cX13_readLand 109 = .ok (.aload_n 0, 1) := by decide +kernel
theorem dX13_readLand_110 : decode cX13_readLand 110 = .ok (.getfield 93, 3) := by decide +kernel
theorem dX13_readLand_113 : decode cX13_readLand 113 = .ok (.iconst 3, 1) := by decide +kernel
theorem dX13_readLand_114 : decode cX13_readLand 114 = .ok (.if_icmp .ne 7, 3) := by decide +kernel
theorem dX13_readLand_117 : decode cX13_readLand 117 = .ok (.iconst 2, 1) := by decide +kernel
theorem dX13_readLand_118 : decode cX13_readLand 118 = .ok (.goto 17, 3) := by decide +kernel
theorem dX13_readLand_121 : decode cX13_readLand 121 = .ok (.aload_n 0, 1) := by decide +kernel
theorem dX13_readLand_122 : decode cX13_readLand 122 = .ok (.getfield 93, 3) := by decide +kernel
theorem dX13_readLand_125 : decode cX13_readLand 125 = .ok (.bipush 9, 2) := by decide +kernel
theorem dX13_readLand_127 : decode cX13_readLand 127 = .ok (.if_icmp .ne 7, 3) := by decide +kernel
theorem dX13_readLand_130 : decode cX13_readLand 130 = .ok (.iconst 3, 1) := by decide +kernel
theorem dX13_readLand_131 : decode cX13_readLand 131 = .ok (.goto 4, 3) := by decide +kernel
theorem dX13_readLand_134 : decode cX13_readLand 134 = .ok (.iconst 4, 1) := by decide +kernel
theorem dX13_readLand_135 : decode cX13_readLand 135 = .ok (.istore_n 3, 1) := by decide +kernel
theorem dX13_readLand_136 : decode cX13_readLand 136 = .ok (.aload_n 0, 1) := by decide +kernel
theorem dX13_readLand_137 : decode cX13_readLand 137 = .ok (.getfield 16, 3) := by decide +kernel
theorem dX13_readLand_140 : decode cX13_readLand 140 = .ok (.iload_n 2, 1) := by decide +kernel
theorem dX13_readLand_141 : decode cX13_readLand 141 = .ok (.iload_n 3, 1) := by decide +kernel
theorem dX13_readLand_142 : decode cX13_readLand 142 = .ok (.iadd, 1) := by decide +kernel
theorem dX13_readLand_143 : decode cX13_readLand 143 = .ok (.iaload, 1) := by decide +kernel
theorem dX13_readLand_144 : decode cX13_readLand 144 = .ok (.iconst 1, 1) := by decide +kernel
theorem dX13_readLand_145 : decode cX13_readLand 145 = .ok (.if_icmp .ne 8, 3) := by decide +kernel
theorem dX13_readLand_148 : decode cX13_readLand 148 = .ok (.aload_n 0, 1) := by decide +kernel
theorem dX13_readLand_149 : decode cX13_readLand 149 = .ok (.iconst 3, 1) := by decide +kernel
theorem dX13_readLand_150 : decode cX13_readLand 150 = .ok (.invokevirtual 120, 3) := by decide +kernel
theorem dX13_readLand_153 : decode cX13_readLand 153 = .ok (.aload_n 0, 1) := by decide +kernel
theorem dX13_readLand_154 : decode cX13_readLand 154 = .ok (.getfield 16, 3) := by decide +kernel
theorem dX13_readLand_157 : decode cX13_readLand 157 = .ok (.iload_n 2, 1) := by decide +kernel
theorem dX13_readLand_158 : decode cX13_readLand 158 = .ok (.iload_n 3, 1) := by decide +kernel
theorem dX13_readLand_159 : decode cX13_readLand 159 = .ok (.iadd, 1) := by decide +kernel
theorem dX13_readLand_160 : decode cX13_readLand 160 = .ok (.iconst 1, 1) := by decide +kernel
theorem dX13_readLand_161 : decode cX13_readLand 161 = .ok (.iastore, 1) := by decide +kernel
theorem dX13_readLand_162 : decode cX13_readLand 162 = .ok (.aload_n 0, 1) := by decide +kernel
theorem dX13_readLand_163 : decode cX13_readLand 163 = .ok (.invokevirtual 128, 3) := by decide +kernel
theorem dX13_readLand_166 : decode cX13_readLand 166 = .ok (.goto (-105), 3) := by decide +kernel
theorem dX13_readLand_169 : decode cX13_readLand 169 = .ok (.return_, 1) := by decide +kernel
theorem dX13_readPerson_0 : decode cX13_readPerson 0 = .ok (.aload_n 0, 1) := by decide +kernel
theorem dX13_readPerson_1 : decode cX13_readPerson 1 = .ok (.getfield 16, 3) := by decide +kernel
theorem dX13_readPerson_4 : decode cX13_readPerson 4 = .ok (.iconst 0, 1) := by decide +kernel
theorem dX13_readPerson_5 : decode cX13_readPerson 5 = .ok (.iaload, 1) := by decide +kernel
theorem dX13_readPerson_6 : decode cX13_readPerson 6 = .ok (.bipush 10, 2) := by decide +kernel
theorem dX13_readPerson_8 : decode cX13_readPerson 8 = .ok (.if_icmp .ne 8, 3) := by decide +kernel
theorem dX13_readPerson_11 : decode cX13_readPerson 11 = .ok (.aload_n 0, 1) := by decide +kernel
theorem dX13_readPerson_12 : decode cX13_readPerson 12 = .ok (.iconst 2, 1) := by decide +kernel
theorem dX13_readPerson_13 : decode cX13_readPerson 13 = .ok (.invokevirtual 120, 3) := by decide +kernel
theorem dX13_readPerson_16 : decode cX13_readPerson 16 = .ok (.aload_n 0, 1) := by decide +kernel
theorem dX13_readPerson_17 : decode cX13_readPerson 17 = .ok (.invokevirtual 128, 3) := by decide +kernel
theorem dX13_readPerson_20 : decode cX13_readPerson 20 = .ok (.aload_n 0, 1) := by decide +kernel
theorem dX13_readPerson_21 : decode cX13_readPerson 21 = .ok (.iconst 0, 1) := by decide +kernel
theorem dX13_readPerson_22 : decode cX13_readPerson 22 = .ok (.invokevirtual 148, 3) := by decide +kernel
theorem dX13_readPerson_25 : decode cX13_readPerson 25 = .ok (.aload_n 0, 1) := by decide +kernel
theorem dX13_readPerson_26 : decode cX13_readPerson 26 = .ok (.iconst 0, 1) := by decide +kernel
theorem dX13_readPerson_27 : decode cX13_readPerson 27 = .ok (.iconst 1, 1) := by decide +kernel
theorem dX13_readPerson_28 : decode cX13_readPerson 28 = .ok (.invokevirtual 142, 3) := by decide +kernel
theorem dX13_readPerson_31 : decode cX13_readPerson 31 = .ok (.istore_n 1, 1) := by decide +kernel
theorem dX13_readPerson_32 : decode cX13_readPerson 32 = .ok (.aload_n 0, 1) := by decide +kernel
theorem dX13_readPerson_33 : decode cX13_readPerson 33 = .ok (.getfield 111, 3) := by decide +kernel
theorem dX13_readPerson_36 : decode cX13_readPerson 36 = .ok (.ifCond .eq 4, 3) := by decide +kernel
theorem dX13_readPerson_39 : decode cX13_readPerson 39 = .ok (.return_, 1) := by decide +kernel
theorem dX13_readPerson_40 : decode cX13_readPerson 40 = .ok (.aload_n 0, 1) := by decide +kernel
theorem dX13_readPerson_41 : decode cX13_readPerson 41 = .ok (.getfield 16, 3) := by decide +kernel
theorem dX13_readPerson_44 : decode cX13_readPerson 44 = .ok (.bipush 14, 2) := by decide +kernel
theorem dX13_readPerson_46 : decode cX13_readPerson 46 = .ok (.aload_n 0, 1) := by decide +kernel
theorem dX13_readPerson_47 : decode cX13_readPerson 47 = .ok (.getfield 16, 3) := by decide +kernel
theorem dX13_readPerson_50 : decode cX13_readPerson 50 = .ok (.iconst 0, 1) := by decide +kernel
theorem dX13_readPerson_51 : decode cX13_readPerson 51 = .ok (.iaload, 1) := by decide +kernel
theorem dX13_readPerson_52 : decode cX13_readPerson 52 = .ok (.iadd, 1) := by decide +kernel
theorem dX13_readPerson_53 : decode cX13_readPerson 53 = .ok (.iload_n 1, 1) := by decide +kernel
theorem dX13_readPerson_54 : decode cX13_readPerson 54 = .ok (.iastore, 1) := by decide +kernel
theorem dX13_readPerson_55 : decode cX13_readPerson 55 = .ok (.aload_n 0, 1) := by decide +kernel
theorem dX13_readPerson_56 : decode cX13_readPerson 56 = .ok (.getfield 16, 3) := by decide +kernel
theorem dX13_readPerson_59 : decode cX13_readPerson 59 = .ok (.iconst 0, 1) := by decide +kernel
theorem dX13_readPerson_60 : decode cX13_readPerson 60 = .ok (.dup2, 1) := by decide +kernel
theorem dX13_readPerson_61 : decode cX13_readPerson 61 = .ok (.iaload, 1) := by decide +kernel
theorem dX13_readPerson_62 : decode cX13_readPerson 62 = .ok (.iconst 1, 1) := by decide +kernel
theorem dX13_readPerson_63 : decode cX13_readPerson 63 = .ok (.iadd, 1) := by decide +kernel
theorem dX13_readPerson_64 : decode cX13_readPerson 64 = .ok (.iastore, 1) := by decide +kernel
theorem dX13_readPerson_65 : decode cX13_readPerson 65 = .ok (.return_, 1) := by decide +kernel
theorem dX13_readChild_0 : decode cX13_readChild 0 = .ok (.aload_n 0, 1) := by decide +kernel
theorem dX13_readChild_1 : decode cX13_readChild 1 = .ok (.invokevirtual 128, 3) := by decide +kernel
theorem dX13_readChild_4 : decode cX13_readChild 4 = .ok (.aload_n 0, 1) := by decide +kernel
theorem dX13_readChild_5 : decode cX13_readChild 5 = .ok (.iconst 0, 1) := by decide +kernel
theorem dX13_readChild_6 : decode cX13_readChild 6 = .ok (.invokevirtual 151, 3) := by decide +kernel
theorem dX13_readChild_9 : decode cX13_readChild 9 = .ok (.istore_n 1, 1) := by decide +kernel
theorem dX13_readChild_10 : decode cX13_readChild 10 = .ok (.aload_n 0, 1) := by decide +kernel
theorem dX13_readChild_11 : decode cX13_readChild 11 = .ok (.iconst 0, 1) := by decide +kernel
theorem dX13_readChild_12 : decode cX13_readChild 12 = .ok (.invokevirtual 139, 3) := by decide +kernel
theorem dX13_readChild_15 : decode cX13_readChild 15 = .ok (.istore_n 2, 1) := by decide +kernel
theorem dX13_readChild_16 : decode cX13_readChild 16 = .ok (.aload_n 0, 1) := by decide +kernel
theorem dX13_readChild_17 : decode cX13_readChild 17 = .ok (.getfield 111, 3) := by decide +kernel
theorem dX13_readChild_20 : decode cX13_readChild 20 = .ok (.ifCond .ne 46, 3) := by decide +kernel
theorem dX13_readChild_23 : decode cX13_readChild 23 = .ok (.iload_n 1, 1) := by decide +kernel
theorem dX13_readChild_24 : decode cX13_readChild 24 = .ok (.iload_n 2, 1) := by decide +kernel
theorem dX13_readChild_25 : decode cX13_readChild 25 = .ok (.if_icmp .le 36, 3) := by decide +kernel
theorem dX13_readChild_28 : decode cX13_readChild 28 = .ok (.aload_n 0, 1) := by decide +kernel
theorem dX13_readChild_29 : decode cX13_readChild 29 = .ok (.getfield 16, 3) := by decide +kernel
theorem dX13_readChild_32 : decode cX13_readChild 32 = .ok (.bipush 24, 2) := by decide +kernel
theorem dX13_readChild_34 : decode cX13_readChild 34 = .ok (.iload_n 1, 1) := by decide +kernel
theorem dX13_readChild_35 : decode cX13_readChild 35 = .ok (.iadd, 1) := by decide +kernel
theorem dX13_readChild_36 : decode cX13_readChild 36 = .ok (.iaload, 1) := by decide +kernel
theorem dX13_readChild_37 : decode cX13_readChild 37 = .ok (.iload_n 2, 1) := by decide +kernel
theorem dX13_readChild_38 : decode cX13_readChild 38 = .ok (.ishr, 1) := by decide +kernel
theorem dX13_readChild_39 : decode cX13_readChild 39 = .ok (.iconst 1, 1) := by decide +kernel
theorem dX13_readChild_40 : decode cX13_readChild 40 = .ok (.iand, 1) := by decide +kernel
theorem dX13_readChild_41 : decode cX13_readChild 41 = .ok (.iconst 1, 1) := by decide +kernel
theorem dX13_readChild_42 : decode cX13_readChild 42 = .ok (.if_icmp .eq 19, 3) := by decide +kernel
theorem dX13_readChild_45 : decode cX13_readChild 45 = .ok (.aload_n 0, 1) := by decide +kernel
theorem dX13_readChild_46 : decode cX13_readChild 46 = .ok (.getfield 16, 3) := by decide +kernel
theorem dX13_readChild_49 : decode cX13_readChild 49 = .ok (.bipush 24, 2) := by decide +kernel
theorem dX13_readChild_51 : decode cX13_readChild 51 = .ok (.iload_n 1, 1) := by decide +kernel
theorem dX13_readChild_52 : decode cX13_readChild 52 = .ok (.iadd, 1) := by decide +kernel
theorem dX13_readChild_53 : decode cX13_readChild 53 = .ok (.iaload, 1) := by decide +kernel
theorem dX13_readChild_54 : decode cX13_readChild 54 = .ok (.invokestatic 154, 3) := by decide +kernel
theorem dX13_readChild_57 : decode cX13_readChild 57 = .ok (.iconst 2, 1) := by decide +kernel
theorem dX13_readChild_58 : decode cX13_readChild 58 = .ok (.if_icmp .ne 8, 3) := by decide +kernel
theorem dX13_readChild_61 : decode cX13_readChild 61 = .ok (.aload_n 0, 1) := by decide +kernel
theorem dX13_readChild_62 : decode cX13_readChild 62 = .ok (.iconst 3, 1) := by decide +kernel
theorem dX13_readChild_63 : decode cX13_readChild 63 = .ok (.invokevirtual 120, 3) := by decide +kernel
theorem dX13_readChild_66 : decode cX13_readChild 66 = .ok (.aload_n 0, 1) := by decide +kernel
theorem dX13_readChild_67 : decode cX13_readChild 67 = .ok (.getfield 111, 3) := by decide +kernel
theorem dX13_readChild_70 : decode cX13_readChild 70 = .ok (.ifCond .ne 18, 3) := by decide +kernel
theorem dX13_readChild_73 : decode cX13_readChild 73 = .ok (.aload_n 0, 1) := by decide +kernel
theorem dX13_readChild_74 : decode cX13_readChild 74 = .ok (.getfield 16, 3) := by decide +kernel
theorem dX13_readChild_77 : decode cX13_readChild 77 = .ok (.bipush 24, 2) := by decide +kernel
theorem dX13_readChild_79 : decode cX13_readChild 79 = .ok (.iload_n 1, 1) := by decide +kernel
theorem dX13_readChild_80 : decode cX13_readChild 80 = .ok (.iadd, 1) := by decide +kernel
theorem dX13_readChild_81 : decode cX13_readChild 81 = .ok (.dup2, 1) := by decide +kernel
theorem dX13_readChild_82 : decode cX13_readChild 82 = .ok (.iaload, 1) := by decide +kernel
theorem dX13_readChild_83 : decode cX13_readChild 83 = .ok (.iconst 1, 1) := by decide +kernel
theorem dX13_readChild_84 : decode cX13_readChild 84 = .ok (.iload_n 2, 1) := by decide +kernel
theorem dX13_readChild_85 : decode cX13_readChild 85 = .ok (.ishl, 1) := by decide +kernel
theorem dX13_readChild_86 : decode cX13_readChild 86 = .ok (.ior, 1) := by decide +kernel
theorem dX13_readChild_87 : decode cX13_readChild 87 = .ok (.iastore, 1) := by decide +kernel
theorem dX13_readChild_88 : decode cX13_readChild 88 = .ok (.aload_n 0, 1) := by decide +kernel
theorem dX13_readChild_89 : decode cX13_readChild 89 = .ok (.invokevirtual 128, 3) := by decide +kernel
theorem dX13_readChild_92 : decode cX13_readChild 92 = .ok (.return_, 1) := by decide +kernel
theorem dX13_readWed_0 : decode cX13_readWed 0 = .ok (.aload_n 0, 1) := by decide +kernel
theorem dX13_readWed_1 : decode cX13_readWed 1 = .ok (.getfield 28, 3) := by decide +kernel
theorem dX13_readWed_4 : decode cX13_readWed 4 = .ok (.bipush 64, 2) := by decide +kernel
theorem dX13_readWed_6 : decode cX13_readWed 6 = .ok (.iaload, 1) := by decide +kernel
theorem dX13_readWed_7 : decode cX13_readWed 7 = .ok (.bipush 6, 2) := by decide +kernel
theorem dX13_readWed_9 : decode cX13_readWed 9 = .ok (.if_icmp .ne 8, 3) := by decide +kernel
theorem dX13_readWed_12 : decode cX13_readWed 12 = .ok (.aload_n 0, 1) := by decide +kernel
theorem dX13_readWed_13 : decode cX13_readWed 13 = .ok (.iconst 2, 1) := by decide +kernel
theorem dX13_readWed_14 : decode cX13_readWed 14 = .ok (.invokevirtual 120, 3) := by decide +kernel
theorem dX13_readWed_17 : decode cX13_readWed 17 = .ok (.aload_n 0, 1) := by decide +kernel
theorem dX13_readWed_18 : decode cX13_readWed 18 = .ok (.invokevirtual 128, 3) := by decide +kernel
theorem dX13_readWed_21 : decode cX13_readWed 21 = .ok (.aload_n 0, 1) := by decide +kernel
theorem dX13_readWed_22 : decode cX13_readWed 22 = .ok (.iconst 0, 1) := by decide +kernel
theorem dX13_readWed_23 : decode cX13_readWed 23 = .ok (.invokevirtual 151, 3) := by decide +kernel
theorem dX13_readWed_26 : decode cX13_readWed 26 = .ok (.istore_n 1, 1) := by decide +kernel
theorem dX13_readWed_27 : decode cX13_readWed 27 = .ok (.aload_n 0, 1) := by decide +kernel
theorem dX13_readWed_28 : decode cX13_readWed 28 = .ok (.iconst 0, 1) := by decide +kernel
theorem dX13_readWed_29 : decode cX13_readWed 29 = .ok (.invokevirtual 139, 3) := by decide +kernel
theorem dX13_readWed_32 : decode cX13_readWed 32 = .ok (.istore_n 2, 1) := by decide +kernel
theorem dX13_readWed_33 : decode cX13_readWed 33 = .ok (.aload_n 0, 1) := by decide +kernel
theorem dX13_readWed_34 : decode cX13_readWed 34 = .ok (.getfield 111, 3) := by decide +kernel
theorem dX13_readWed_37 : decode cX13_readWed 37 = .ok (.ifCond .ne 13, 3) := by decide +kernel
theorem dX13_readWed_40 : decode cX13_readWed 40 = .ok (.iload_n 1, 1) := by decide +kernel
theorem dX13_readWed_41 : decode cX13_readWed 41 = .ok (.iload_n 2, 1) := by decide +kernel
theorem dX13_readWed_42 : decode cX13_readWed 42 = .ok (.if_icmp .ne 8, 3) := by decide +kernel
theorem dX13_readWed_45 : decode cX13_readWed 45 = .ok (.aload_n 0, 1) := by decide +kernel
theorem dX13_readWed_46 : decode cX13_readWed 46 = .ok (.iconst 3, 1) := by decide +kernel
theorem dX13_readWed_47 : decode cX13_readWed 47 = .ok (.invokevirtual 120, 3) := by decide +kernel
theorem dX13_readWed_50 : decode cX13_readWed 50 = .ok (.aload_n 0, 1) := by decide +kernel
theorem dX13_readWed_51 : decode cX13_readWed 51 = .ok (.invokevirtual 128, 3) := by decide +kernel
theorem dX13_readWed_54 : decode cX13_readWed 54 = .ok (.aload_n 0, 1) := by decide +kernel
theorem dX13_readWed_55 : decode cX13_readWed 55 = .ok (.iconst 0, 1) := by decide +kernel
theorem dX13_readWed_56 : decode cX13_readWed 56 = .ok (.sipush 9999, 3) := by decide +kernel
theorem dX13_readWed_59 : decode cX13_readWed 59 = .ok (.invokevirtual 142, 3) := by decide +kernel
theorem dX13_readWed_62 : decode cX13_readWed 62 = .ok (.istore_n 3, 1) := by decide +kernel
theorem dX13_readWed_63 : decode cX13_readWed 63 = .ok (.aload_n 0, 1) := by decide +kernel
theorem dX13_readWed_64 : decode cX13_readWed 64 = .ok (.getfield 111, 3) := by decide +kernel
theorem dX13_readWed_67 : decode cX13_readWed 67 = .ok (.ifCond .ne 13, 3) := by decide +kernel
theorem dX13_readWed_70 : decode cX13_readWed 70 = .ok (.aload_n 0, 1) := by decide +kernel
theorem dX13_readWed_71 : decode cX13_readWed 71 = .ok (.getfield 28, 3) := by decide +kernel
theorem dX13_readWed_74 : decode cX13_readWed 74 = .ok (.iload_n 1, 1) := by decide +kernel
theorem dX13_readWed_75 : decode cX13_readWed 75 = .ok (.iload_n 2, 1) := by decide +kernel
theorem dX13_readWed_76 : decode cX13_readWed 76 = .ok (.iload_n 3, 1) := by decide +kernel
theorem dX13_readWed_77 : decode cX13_readWed 77 = .ok (.invokestatic 159, 3) := by decide +kernel
theorem dX13_readWed_80 : decode cX13_readWed 80 = .ok (.return_, 1) := by decide +kernel
theorem dX13_weds_0 : decode cX13_weds 0 = .ok (.bipush 46, 2) := by decide +kernel
theorem dX13_weds_2 : decode cX13_weds 2 = .ok (.iconst 3, 1) := by decide +kernel
theorem dX13_weds_3 : decode cX13_weds 3 = .ok (.aload_n 0, 1) := by decide +kernel
theorem dX13_weds_4 : decode cX13_weds 4 = .ok (.bipush 64, 2) := by decide +kernel
theorem dX13_weds_6 : decode cX13_weds 6 = .ok (.iaload, 1) := by decide +kernel
theorem dX13_weds_7 : decode cX13_weds 7 = .ok (.imul, 1) := by decide +kernel
theorem dX13_weds_8 : decode cX13_weds 8 = .ok (.iadd, 1) := by decide +kernel
theorem dX13_weds_9 : decode cX13_weds 9 = .ok (.istore 4, 2) := by decide +kernel
theorem dX13_weds_11 : decode cX13_weds 11 = .ok (.aload_n 0, 1) := by decide +kernel
theorem dX13_weds_12 : decode cX13_weds 12 = .ok (.iload 4, 2) := by decide +kernel
theorem dX13_weds_14 : decode cX13_weds 14 = .ok (.iload_n 1, 1) := by decide +kernel
theorem dX13_weds_15 : decode cX13_weds 15 = .ok (.iastore, 1) := by decide +kernel
theorem dX13_weds_16 : decode cX13_weds 16 = .ok (.aload_n 0, 1) := by decide +kernel
theorem dX13_weds_17 : decode cX13_weds 17 = .ok (.iload 4, 2) := by decide +kernel
theorem dX13_weds_19 : decode cX13_weds 19 = .ok (.iconst 1, 1) := by decide +kernel
theorem dX13_weds_20 : decode cX13_weds 20 = .ok (.iadd, 1) := by decide +kernel
theorem dX13_weds_21 : decode cX13_weds 21 = .ok (.iload_n 2, 1) := by decide +kernel
theorem dX13_weds_22 : decode cX13_weds 22 = .ok (.iastore, 1) := by decide +kernel
theorem dX13_weds_23 : decode cX13_weds 23 = .ok (.aload_n 0, 1) := by decide +kernel
theorem dX13_weds_24 : decode cX13_weds 24 = .ok (.iload 4, 2) := by decide +kernel
theorem dX13_weds_26 : decode cX13_weds 26 = .ok (.iconst 2, 1) := by decide +kernel
theorem dX13_weds_27 : decode cX13_weds 27 = .ok (.iadd, 1) := by decide +kernel
theorem dX13_weds_28 : decode cX13_weds 28 = .ok (.iload_n 3, 1) := by decide +kernel
theorem dX13_weds_29 : decode cX13_weds 29 = .ok (.iastore, 1) := by decide +kernel
theorem dX13_weds_30 : decode cX13_weds 30 = .ok (.aload_n 0, 1) := by decide +kernel
theorem dX13_weds_31 : decode cX13_weds 31 = .ok (.bipush 64, 2) := by decide +kernel
theorem dX13_weds_33 : decode cX13_weds 33 = .ok (.dup2, 1) := by decide +kernel
theorem dX13_weds_34 : decode cX13_weds 34 = .ok (.iaload, 1) := by decide +kernel
theorem dX13_weds_35 : decode cX13_weds 35 = .ok (.iconst 1, 1) := by decide +kernel
theorem dX13_weds_36 : decode cX13_weds 36 = .ok (.iadd, 1) := by decide +kernel
theorem dX13_weds_37 : decode cX13_weds 37 = .ok (.iastore, 1) := by decide +kernel
theorem dX13_weds_38 : decode cX13_weds 38 = .ok (.return_, 1) := by decide +kernel
theorem dX13_readThing_0 : decode cX13_readThing 0 = .ok (.aload_n 0, 1) := by decide +kernel
theorem dX13_readThing_1 : decode cX13_readThing 1 = .ok (.getfield 16, 3) := by decide +kernel
theorem dX13_readThing_4 : decode cX13_readThing 4 = .ok (.iconst 1, 1) := by decide +kernel
theorem dX13_readThing_5 : decode cX13_readThing 5 = .ok (.iaload, 1) := by decide +kernel
theorem dX13_readThing_6 : decode cX13_readThing 6 = .ok (.bipush 8, 2) := by decide +kernel
theorem dX13_readThing_8 : decode cX13_readThing 8 = .ok (.if_icmp .ne 8, 3) := by decide +kernel
theorem dX13_readThing_11 : decode cX13_readThing 11 = .ok (.aload_n 0, 1) := by decide +kernel
theorem dX13_readThing_12 : decode cX13_readThing 12 = .ok (.iconst 2, 1) := by decide +kernel
theorem dX13_readThing_13 : decode cX13_readThing 13 = .ok (.invokevirtual 120, 3) := by decide +kernel
theorem dX13_readThing_16 : decode cX13_readThing 16 = .ok (.aload_n 0, 1) := by decide +kernel
theorem dX13_readThing_17 : decode cX13_readThing 17 = .ok (.invokevirtual 128, 3) := by decide +kernel
theorem dX13_readThing_20 : decode cX13_readThing 20 = .ok (.aload_n 0, 1) := by decide +kernel
theorem dX13_readThing_21 : decode cX13_readThing 21 = .ok (.iconst 1, 1) := by decide +kernel
theorem dX13_readThing_22 : decode cX13_readThing 22 = .ok (.invokevirtual 148, 3) := by decide +kernel
theorem dX13_readThing_25 : decode cX13_readThing 25 = .ok (.aload_n 0, 1) := by decide +kernel
theorem dX13_readThing_26 : decode cX13_readThing 26 = .ok (.iconst 0, 1) := by decide +kernel
theorem dX13_readThing_27 : decode cX13_readThing 27 = .ok (.invokevirtual 151, 3) := by decide +kernel
theorem dX13_readThing_30 : decode cX13_readThing 30 = .ok (.istore_n 1, 1) := by decide +kernel
theorem dX13_readThing_31 : decode cX13_readThing 31 = .ok (.aload_n 0, 1) := by decide +kernel
theorem dX13_readThing_32 : decode cX13_readThing 32 = .ok (.iconst 0, 1) := by decide +kernel
theorem dX13_readThing_33 : decode cX13_readThing 33 = .ok (.iconst 1, 1) := by decide +kernel
theorem dX13_readThing_34 : decode cX13_readThing 34 = .ok (.invokevirtual 142, 3) := by decide +kernel
theorem dX13_readThing_37 : decode cX13_readThing 37 = .ok (.istore_n 2, 1) := by decide +kernel
theorem dX13_readThing_38 : decode cX13_readThing 38 = .ok (.aload_n 0, 1) := by decide +kernel
theorem dX13_readThing_39 : decode cX13_readThing 39 = .ok (.iconst 1, 1) := by decide +kernel
theorem dX13_readThing_40 : decode cX13_readThing 40 = .ok (.sipush 9999, 3) := by decide +kernel
theorem dX13_readThing_43 : decode cX13_readThing 43 = .ok (.invokevirtual 142, 3) := by decide +kernel
theorem dX13_readThing_46 : decode cX13_readThing 46 = .ok (.istore_n 3, 1) := by decide +kernel
theorem dX13_readThing_47 : decode cX13_readThing 47 = .ok (.aload_n 0, 1) := by decide +kernel
theorem dX13_readThing_48 : decode cX13_readThing 48 = .ok (.getfield 111, 3) := by decide +kernel
theorem dX13_readThing_51 : decode cX13_readThing 51 = .ok (.ifCond .eq 4, 3) := by decide +kernel
theorem dX13_readThing_54 : decode cX13_readThing 54 = .ok (.return_, 1) := by decide +kernel
theorem dX13_readThing_55 : decode cX13_readThing 55 = .ok (.bipush 34, 2) := by decide +kernel
theorem dX13_readThing_57 : decode cX13_readThing 57 = .ok (.iconst 3, 1) := by decide +kernel
theorem dX13_readThing_58 : decode cX13_readThing 58 = .ok (.aload_n 0, 1) := by decide +kernel
theorem dX13_readThing_59 : decode cX13_readThing 59 = .ok (.getfield 16, 3) := by decide +kernel
theorem dX13_readThing_62 : decode cX13_readThing 62 = .ok (.iconst 1, 1) := by decide +kernel
theorem dX13_readThing_63 : decode cX13_readThing 63 = .ok (.iaload, 1) := by decide +kernel
theorem dX13_readThing_64 : decode cX13_readThing 64 = .ok (.imul, 1) := by decide +kernel
theorem dX13_readThing_65 : decode cX13_readThing 65 = .ok (.iadd, 1) := by decide +kernel
theorem dX13_readThing_66 : decode cX13_readThing 66 = .ok (.istore 4, 2) := by decide +kernel
theorem dX13_readThing_68 : decode cX13_readThing 68 = .ok (.aload_n 0, 1) := by decide +kernel
theorem dX13_readThing_69 : decode cX13_readThing 69 = .ok (.getfield 16, 3) := by decide +kernel
theorem dX13_readThing_72 : decode cX13_readThing 72 = .ok (.iload 4, 2) := by decide +kernel
theorem dX13_readThing_74 : decode cX13_readThing 74 = .ok (.iload_n 1, 1) := by decide +kernel
theorem dX13_readThing_75 : decode cX13_readThing 75 = .ok (.iastore, 1) := by decide +kernel
theorem dX13_readThing_76 : decode cX13_readThing 76 = .ok (.aload_n 0, 1) := by decide +kernel
theorem dX13_readThing_77 : decode cX13_readThing 77 = .ok (.getfield 16, 3) := by decide +kernel
theorem dX13_readThing_80 : decode cX13_readThing 80 = .ok (.iload 4, 2) := by decide +kernel
theorem dX13_readThing_82 : decode cX13_readThing 82 = .ok (.iconst 1, 1) := by decide +kernel
theorem dX13_readThing_83 : decode cX13_readThing 83 = .ok (.iadd, 1) := by decide +kernel
theorem dX13_readThing_84 : decode cX13_readThing 84 = .ok (.iload_n 2, 1) := by decide +kernel
theorem dX13_readThing_85 : decode cX13_readThing 85 = .ok (.iastore, 1) := by decide +kernel
theorem dX13_readThing_86 : decode cX13_readThing 86 = .ok (.aload_n 0, 1) := by decide +kernel
theorem dX13_readThing_87 : decode cX13_readThing 87 = .ok (.getfield 16, 3) := by decide +kernel
theorem dX13_readThing_90 : decode cX13_readThing 90 = .ok (.iload 4, 2) := by decide +kernel
theorem dX13_readThing_92 : decode cX13_readThing 92 = .ok (.iconst 2, 1) := by decide +kernel
theorem dX13_readThing_93 : decode cX13_readThing 93 = .ok (.iadd, 1) := by decide +kernel
theorem dX13_readThing_94 : decode cX13_readThing 94 = .ok (.iload_n 3, 1) := by decide +kernel
theorem dX13_readThing_95 : decode cX13_readThing 95 = .ok (.iastore, 1) := by decide +kernel
theorem dX13_readThing_96 : decode cX13_readThing 96 = .ok (.aload_n 0, 1) := by decide +kernel
theorem dX13_readThing_97 : decode cX13_readThing 97 = .ok (.getfield 16, 3) := by decide +kernel
theorem dX13_readThing_100 : decode cX13_readThing 100 = .ok (.iconst 1, 1) := by decide +kernel
theorem dX13_readThing_101 : decode cX13_readThing 101 = .ok (.dup2, 1) := by decide +kernel
theorem dX13_readThing_102 : decode cX13_readThing 102 = .ok (.iaload, 1) := by decide +kernel
theorem dX13_readThing_103 : decode cX13_readThing 103 = .ok (.iconst 1, 1) := by decide +kernel
theorem dX13_readThing_104 : decode cX13_readThing 104 = .ok (.iadd, 1) := by decide +kernel
theorem dX13_readThing_105 : decode cX13_readThing 105 = .ok (.iastore, 1) := by decide +kernel
theorem dX13_readThing_106 : decode cX13_readThing 106 = .ok (.return_, 1) := by decide +kernel
theorem dX13_readPaper_0 : decode cX13_readPaper 0 = .ok (.aload_n 0, 1) := by decide +kernel
theorem dX13_readPaper_1 : decode cX13_readPaper 1 = .ok (.getfield 16, 3) := by decide +kernel
theorem dX13_readPaper_4 : decode cX13_readPaper 4 = .ok (.iconst 2, 1) := by decide +kernel
theorem dX13_readPaper_5 : decode cX13_readPaper 5 = .ok (.iaload, 1) := by decide +kernel
theorem dX13_readPaper_6 : decode cX13_readPaper 6 = .ok (.istore_n 1, 1) := by decide +kernel
theorem dX13_readPaper_7 : decode cX13_readPaper 7 = .ok (.iload_n 1, 1) := by decide +kernel
theorem dX13_readPaper_8 : decode cX13_readPaper 8 = .ok (.bipush 12, 2) := by decide +kernel
theorem dX13_readPaper_10 : decode cX13_readPaper 10 = .ok (.if_icmp .ne 8, 3) := by decide +kernel
theorem dX13_readPaper_13 : decode cX13_readPaper 13 = .ok (.aload_n 0, 1) := by decide +kernel
theorem dX13_readPaper_14 : decode cX13_readPaper 14 = .ok (.iconst 2, 1) := by decide +kernel
theorem dX13_readPaper_15 : decode cX13_readPaper 15 = .ok (.invokevirtual 120, 3) := by decide +kernel
theorem dX13_readPaper_18 : decode cX13_readPaper 18 = .ok (.aload_n 0, 1) := by decide +kernel
theorem dX13_readPaper_19 : decode cX13_readPaper 19 = .ok (.invokevirtual 128, 3) := by decide +kernel
theorem dX13_readPaper_22 : decode cX13_readPaper 22 = .ok (.aload_n 0, 1) := by decide +kernel
theorem dX13_readPaper_23 : decode cX13_readPaper 23 = .ok (.iconst 2, 1) := by decide +kernel
theorem dX13_readPaper_24 : decode cX13_readPaper 24 = .ok (.invokevirtual 148, 3) := by decide +kernel
theorem dX13_readPaper_27 : decode cX13_readPaper 27 = .ok (.aload_n 0, 1) := by decide +kernel
theorem dX13_readPaper_28 : decode cX13_readPaper 28 = .ok (.iconst 0, 1) := by decide +kernel
theorem dX13_readPaper_29 : decode cX13_readPaper 29 = .ok (.invokevirtual 151, 3) := by decide +kernel
theorem dX13_readPaper_32 : decode cX13_readPaper 32 = .ok (.istore_n 2, 1) := by decide +kernel
theorem dX13_readPaper_33 : decode cX13_readPaper 33 = .ok (.aload_n 0, 1) := by decide +kernel
theorem dX13_readPaper_34 : decode cX13_readPaper 34 = .ok (.iconst 0, 1) := by decide +kernel
theorem dX13_readPaper_35 : decode cX13_readPaper 35 = .ok (.sipush 9999, 3) := by decide +kernel
theorem dX13_readPaper_38 : decode cX13_readPaper 38 = .ok (.invokevirtual 142, 3) := by decide +kernel
theorem dX13_readPaper_41 : decode cX13_readPaper 41 = .ok (.istore_n 3, 1) := by decide +kernel
theorem dX13_readPaper_42 : decode cX13_readPaper 42 = .ok (.aload_n 0, 1) := by decide +kernel
theorem dX13_readPaper_43 : decode cX13_readPaper 43 = .ok (.iconst 0, 1) := by decide +kernel
theorem dX13_readPaper_44 : decode cX13_readPaper 44 = .ok (.iconst 1, 1) := by decide +kernel
theorem dX13_readPaper_45 : decode cX13_readPaper 45 = .ok (.invokevirtual 142, 3) := by decide +kernel
theorem dX13_readPaper_48 : decode cX13_readPaper 48 = .ok (.istore 4, 2) := by decide +kernel
theorem dX13_readPaper_50 : decode cX13_readPaper 50 = .ok (.aload_n 0, 1) := by decide +kernel
theorem dX13_readPaper_51 : decode cX13_readPaper 51 = .ok (.getfield 111, 3) := by decide +kernel
theorem dX13_readPaper_54 : decode cX13_readPaper 54 = .ok (.ifCond .ne 33, 3) := by decide +kernel
theorem dX13_readPaper_57 : decode cX13_readPaper 57 = .ok (.aload_n 0, 1) := by decide +kernel
theorem dX13_readPaper_58 : decode cX13_readPaper 58 = .ok (.getfield 80, 3) := by decide +kernel
theorem dX13_readPaper_61 : decode cX13_readPaper 61 = .ok (.ifCond .ne 21, 3) := by decide +kernel
theorem dX13_readPaper_64 : decode cX13_readPaper 64 = .ok (.aload_n 0, 1) := by decide +kernel
theorem dX13_readPaper_65 : decode cX13_readPaper 65 = .ok (.getfield 93, 3) := by decide +kernel
theorem dX13_readPaper_68 : decode cX13_readPaper 68 = .ok (.bipush 11, 2) := by decide +kernel
theorem dX13_readPaper_70 : decode cX13_readPaper 70 = .ok (.if_icmp .lt 12, 3) := by decide +kernel
theorem dX13_readPaper_73 : decode cX13_readPaper 73 = .ok (.aload_n 0, 1) := by decide +kernel
theorem dX13_readPaper_74 : decode cX13_readPaper 74 = .ok (.getfield 93, 3) := by decide +kernel
theorem dX13_readPaper_77 : decode cX13_readPaper 77 = .ok (.bipush 13, 2) := by decide +kernel
theorem dX13_readPaper_79 : decode cX13_readPaper 79 = .ok (.if_icmp .le 8, 3) := by decide +kernel
theorem dX13_readPaper_82 : decode cX13_readPaper 82 = .ok (.aload_n 0, 1) := by decide +kernel
theorem dX13_readPaper_83 : decode cX13_readPaper 83 = .ok (.iconst 1, 1) := by decide +kernel
theorem dX13_readPaper_84 : decode cX13_readPaper 84 = .ok (.invokevirtual 120, 3) := by decide +kernel
theorem dX13_readPaper_87 : decode cX13_readPaper 87 = .ok (.aload_n 0, 1) := by decide +kernel
theorem dX13_readPaper_88 : decode cX13_readPaper 88 = .ok (.getfield 111, 3) := by decide +kernel
theorem dX13_readPaper_91 : decode cX13_readPaper 91 = .ok (.ifCond .eq 4, 3) := by decide +kernel
theorem dX13_readPaper_94 : decode cX13_readPaper 94 = .ok (.return_, 1) := by decide +kernel
theorem dX13_readPaper_95 : decode cX13_readPaper 95 = .ok (.bipush 58, 2) := by decide +kernel
theorem dX13_readPaper_97 : decode cX13_readPaper 97 = .ok (.bipush 7, 2) := by decide +kernel
theorem dX13_readPaper_99 : decode cX13_readPaper 99 = .ok (.iload_n 1, 1) := by decide +kernel
theorem dX13_readPaper_100 : decode cX13_readPaper 100 = .ok (.imul, 1) := by decide +kernel
theorem dX13_readPaper_101 : decode cX13_readPaper 101 = .ok (.iadd, 1) := by decide +kernel
theorem dX13_readPaper_102 : decode cX13_readPaper 102 = .ok (.istore 5, 2) := by decide +kernel
theorem dX13_readPaper_104 : decode cX13_readPaper 104 = .ok (.aload_n 0, 1) := by decide +kernel
theorem dX13_readPaper_105 : decode cX13_readPaper 105 = .ok (.getfield 16, 3) := by decide +kernel
theorem dX13_readPaper_108 : decode cX13_readPaper 108 = .ok (.iload 5, 2) := by decide +kernel
theorem dX13_readPaper_110 : decode cX13_readPaper 110 = .ok (.iconst 0, 1) := by decide +kernel
theorem dX13_readPaper_111 : decode cX13_readPaper 111 = .ok (.iadd, 1) := by decide +kernel
theorem dX13_readPaper_112 : decode cX13_readPaper 112 = .ok (.iload_n 2, 1) := by decide +kernel
theorem dX13_readPaper_113 : decode cX13_readPaper 113 = .ok (.iastore, 1) := by decide +kernel
theorem dX13_readPaper_114 : decode cX13_readPaper 114 = .ok (.aload_n 0, 1) := by decide +kernel
theorem dX13_readPaper_115 : decode cX13_readPaper 115 = .ok (.getfield 16, 3) := by decide +kernel
theorem dX13_readPaper_118 : decode cX13_readPaper 118 = .ok (.iload 5, 2) := by decide +kernel
theorem dX13_readPaper_120 : decode cX13_readPaper 120 = .ok (.iconst 1, 1) := by decide +kernel
theorem dX13_readPaper_121 : decode cX13_readPaper 121 = .ok (.iadd, 1) := by decide +kernel
theorem dX13_readPaper_122 : decode cX13_readPaper 122 = .ok (.iload_n 3, 1) := by decide +kernel
theorem dX13_readPaper_123 : decode cX13_readPaper 123 = .ok (.iastore, 1) := by decide +kernel
theorem dX13_readPaper_124 : decode cX13_readPaper 124 = .ok (.aload_n 0, 1) := by decide +kernel
theorem dX13_readPaper_125 : decode cX13_readPaper 125 = .ok (.getfield 16, 3) := by decide +kernel
theorem dX13_readPaper_128 : decode cX13_readPaper 128 = .ok (.iload 5, 2) := by decide +kernel
theorem dX13_readPaper_130 : decode cX13_readPaper 130 = .ok (.iconst 2, 1) := by decide +kernel
theorem dX13_readPaper_131 : decode cX13_readPaper 131 = .ok (.iadd, 1) := by decide +kernel
theorem dX13_readPaper_132 : decode cX13_readPaper 132 = .ok (.iload 4, 2) := by decide +kernel
theorem dX13_readPaper_134 : decode cX13_readPaper 134 = .ok (.iastore, 1) := by decide +kernel
theorem dX13_readPaper_135 : decode cX13_readPaper 135 = .ok (.aload_n 0, 1) := by decide +kernel
theorem dX13_readPaper_136 : decode cX13_readPaper 136 = .ok (.getfield 16, 3) := by decide +kernel
theorem dX13_readPaper_139 : decode cX13_readPaper 139 = .ok (.iload 5, 2) := by decide +kernel
theorem dX13_readPaper_141 : decode cX13_readPaper 141 = .ok (.iconst 3, 1) := by decide +kernel
theorem dX13_readPaper_142 : decode cX13_readPaper 142 = .ok (.iadd, 1) := by decide +kernel
theorem dX13_readPaper_143 : decode cX13_readPaper 143 = .ok (.aload_n 0, 1) := by decide +kernel
theorem dX13_readPaper_144 : decode cX13_readPaper 144 = .ok (.getfield 93, 3) := by decide +kernel
theorem dX13_readPaper_147 : decode cX13_readPaper 147 = .ok (.bipush 11, 2) := by decide +kernel
theorem dX13_readPaper_149 : decode cX13_readPaper 149 = .ok (.isub, 1) := by decide +kernel
theorem dX13_readPaper_150 : decode cX13_readPaper 150 = .ok (.iastore, 1) := by decide +kernel
theorem dX13_readPaper_151 : decode cX13_readPaper 151 = .ok (.aload_n 0, 1) := by decide +kernel
theorem dX13_readPaper_152 : decode cX13_readPaper 152 = .ok (.getfield 16, 3) := by decide +kernel
theorem dX13_readPaper_155 : decode cX13_readPaper 155 = .ok (.iload 5, 2) := by decide +kernel
theorem dX13_readPaper_157 : decode cX13_readPaper 157 = .ok (.iconst 4, 1) := by decide +kernel
theorem dX13_readPaper_158 : decode cX13_readPaper 158 = .ok (.iadd, 1) := by decide +kernel
theorem dX13_readPaper_159 : decode cX13_readPaper 159 = .ok (.iconst 0, 1) := by decide +kernel
theorem dX13_readPaper_160 : decode cX13_readPaper 160 = .ok (.iastore, 1) := by decide +kernel
theorem dX13_readPaper_161 : decode cX13_readPaper 161 = .ok (.aload_n 0, 1) := by decide +kernel
theorem dX13_readPaper_162 : decode cX13_readPaper 162 = .ok (.getfield 16, 3) := by decide +kernel
theorem dX13_readPaper_165 : decode cX13_readPaper 165 = .ok (.iload 5, 2) := by decide +kernel
theorem dX13_readPaper_167 : decode cX13_readPaper 167 = .ok (.iconst 5, 1) := by decide +kernel
theorem dX13_readPaper_168 : decode cX13_readPaper 168 = .ok (.iadd, 1) := by decide +kernel
theorem dX13_readPaper_169 : decode cX13_readPaper 169 = .ok (.iconst 0, 1) := by decide +kernel
theorem dX13_readPaper_170 : decode cX13_readPaper 170 = .ok (.iastore, 1) := by decide +kernel
theorem dX13_readPaper_171 : decode cX13_readPaper 171 = .ok (.aload_n 0, 1) := by decide +kernel
theorem dX13_readPaper_172 : decode cX13_readPaper 172 = .ok (.getfield 16, 3) := by decide +kernel
theorem dX13_readPaper_175 : decode cX13_readPaper 175 = .ok (.iload 5, 2) := by decide +kernel
theorem dX13_readPaper_177 : decode cX13_readPaper 177 = .ok (.bipush 6, 2) := by decide +kernel
theorem dX13_readPaper_179 : decode cX13_readPaper 179 = .ok (.iadd, 1) := by decide +kernel
theorem dX13_readPaper_180 : decode cX13_readPaper 180 = .ok (.bipush (-2), 2) := by decide +kernel
theorem dX13_readPaper_182 : decode cX13_readPaper 182 = .ok (.iastore, 1) := by decide +kernel
theorem dX13_readPaper_183 : decode cX13_readPaper 183 = .ok (.aload_n 0, 1) := by decide +kernel
theorem dX13_readPaper_184 : decode cX13_readPaper 184 = .ok (.getfield 28, 3) := by decide +kernel
theorem dX13_readPaper_187 : decode cX13_readPaper 187 = .ok (.bipush 10, 2) := by decide +kernel
theorem dX13_readPaper_189 : decode cX13_readPaper 189 = .ok (.iload_n 1, 1) := by decide +kernel
theorem dX13_readPaper_190 : decode cX13_readPaper 190 = .ok (.iadd, 1) := by decide +kernel
theorem dX13_readPaper_191 : decode cX13_readPaper 191 = .ok (.bipush (-2), 2) := by decide +kernel
theorem dX13_readPaper_193 : decode cX13_readPaper 193 = .ok (.iastore, 1) := by decide +kernel
theorem dX13_readPaper_194 : decode cX13_readPaper 194 = .ok (.aload_n 0, 1) := by decide +kernel
theorem dX13_readPaper_195 : decode cX13_readPaper 195 = .ok (.getfield 28, 3) := by decide +kernel
theorem dX13_readPaper_198 : decode cX13_readPaper 198 = .ok (.bipush 22, 2) := by decide +kernel
theorem dX13_readPaper_200 : decode cX13_readPaper 200 = .ok (.iload_n 1, 1) := by decide +kernel
theorem dX13_readPaper_201 : decode cX13_readPaper 201 = .ok (.iadd, 1) := by decide +kernel
theorem dX13_readPaper_202 : decode cX13_readPaper 202 = .ok (.iconst 0, 1) := by decide +kernel
theorem dX13_readPaper_203 : decode cX13_readPaper 203 = .ok (.iastore, 1) := by decide +kernel
theorem dX13_readPaper_204 : decode cX13_readPaper 204 = .ok (.aload_n 0, 1) := by decide +kernel
theorem dX13_readPaper_205 : decode cX13_readPaper 205 = .ok (.getfield 28, 3) := by decide +kernel
theorem dX13_readPaper_208 : decode cX13_readPaper 208 = .ok (.bipush 34, 2) := by decide +kernel
theorem dX13_readPaper_210 : decode cX13_readPaper 210 = .ok (.iload_n 1, 1) := by decide +kernel
theorem dX13_readPaper_211 : decode cX13_readPaper 211 = .ok (.iadd, 1) := by decide +kernel
theorem dX13_readPaper_212 : decode cX13_readPaper 212 = .ok (.iconst 0, 1) := by decide +kernel
theorem dX13_readPaper_213 : decode cX13_readPaper 213 = .ok (.iastore, 1) := by decide +kernel
theorem dX13_readPaper_214 : decode cX13_readPaper 214 = .ok (.aload_n 0, 1) := by decide +kernel
theorem dX13_readPaper_215 : decode cX13_readPaper 215 = .ok (.getfield 22, 3) := by decide +kernel
theorem dX13_readPaper_218 : decode cX13_readPaper 218 = .ok (.iload_n 1, 1) := by decide +kernel
theorem dX13_readPaper_219 : decode cX13_readPaper 219 = .ok (.iconst 0, 1) := by decide +kernel
theorem dX13_readPaper_220 : decode cX13_readPaper 220 = .ok (.iastore, 1) := by decide +kernel
theorem dX13_readPaper_221 : decode cX13_readPaper 221 = .ok (.aload_n 0, 1) := by decide +kernel
theorem dX13_readPaper_222 : decode cX13_readPaper 222 = .ok (.invokevirtual 128, 3) := by decide +kernel
theorem dX13_readPaper_225 : decode cX13_readPaper 225 = .ok (.aload_n 0, 1) := by decide +kernel
theorem dX13_readPaper_226 : decode cX13_readPaper 226 = .ok (.getfield 111, 3) := by decide +kernel
theorem dX13_readPaper_229 : decode cX13_readPaper 229 = .ok (.ifCond .ne 20, 3) := by decide +kernel
theorem dX13_readPaper_232 : decode cX13_readPaper 232 = .ok (.aload_n 0, 1) := by decide +kernel
theorem dX13_readPaper_233 : decode cX13_readPaper 233 = .ok (.iload_n 1, 1) := by decide +kernel
theorem dX13_readPaper_234 : decode cX13_readPaper 234 = .ok (.iload 5, 2) := by decide +kernel
theorem dX13_readPaper_236 : decode cX13_readPaper 236 = .ok (.invokevirtual 163, 3) := by decide +kernel
theorem dX13_readPaper_239 : decode cX13_readPaper 239 = .ok (.ifCond .eq 10, 3) := by decide +kernel
theorem dX13_readPaper_242 : decode cX13_readPaper 242 = .ok (.aload_n 0, 1) := by decide +kernel
theorem dX13_readPaper_243 : decode cX13_readPaper 243 = .ok (.invokevirtual 128, 3) := by decide +kernel
theorem dX13_readPaper_246 : decode cX13_readPaper 246 = .ok (.goto (-21), 3) := by decide +kernel
theorem dX13_readPaper_249 : decode cX13_readPaper 249 = .ok (.aload_n 0, 1) := by decide +kernel
theorem dX13_readPaper_250 : decode cX13_readPaper 250 = .ok (.getfield 111, 3) := by decide +kernel
theorem dX13_readPaper_253 : decode cX13_readPaper 253 = .ok (.ifCond .ne 13, 3) := by decide +kernel
theorem dX13_readPaper_256 : decode cX13_readPaper 256 = .ok (.aload_n 0, 1) := by decide +kernel
theorem dX13_readPaper_257 : decode cX13_readPaper 257 = .ok (.getfield 16, 3) := by decide +kernel
theorem dX13_readPaper_260 : decode cX13_readPaper 260 = .ok (.iconst 2, 1) := by decide +kernel
theorem dX13_readPaper_261 : decode cX13_readPaper 261 = .ok (.dup2, 1) := by decide +kernel
theorem dX13_readPaper_262 : decode cX13_readPaper 262 = .ok (.iaload, 1) := by decide +kernel
theorem dX13_readPaper_263 : decode cX13_readPaper 263 = .ok (.iconst 1, 1) := by decide +kernel
theorem dX13_readPaper_264 : decode cX13_readPaper 264 = .ok (.iadd, 1) := by decide +kernel
theorem dX13_readPaper_265 : decode cX13_readPaper 265 = .ok (.iastore, 1) := by decide +kernel
theorem dX13_readPaper_266 : decode cX13_readPaper 266 = .ok (.return_, 1) := by decide +kernel
theorem dX13_readPart_0 : decode cX13_readPart 0 = .ok (.aload_n 0, 1) := by decide +kernel
theorem dX13_readPart_1 : decode cX13_readPart 1 = .ok (.bipush 8, 2) := by decide +kernel
theorem dX13_readPart_3 : decode cX13_readPart 3 = .ok (.invokevirtual 145, 3) := by decide +kernel
theorem dX13_readPart_6 : decode cX13_readPart 6 = .ok (.ifCond .eq 32, 3) := by decide +kernel
theorem dX13_readPart_9 : decode cX13_readPart 9 = .ok (.aload_n 0, 1) := by decide +kernel
theorem dX13_readPart_10 : decode cX13_readPart 10 = .ok (.getfield 16, 3) := by decide +kernel
theorem dX13_readPart_13 : decode cX13_readPart 13 = .ok (.iload_n 2, 1) := by decide +kernel
theorem dX13_readPart_14 : decode cX13_readPart 14 = .ok (.iconst 4, 1) := by decide +kernel
theorem dX13_readPart_15 : decode cX13_readPart 15 = .ok (.iadd, 1) := by decide +kernel
theorem dX13_readPart_16 : decode cX13_readPart 16 = .ok (.iaload, 1) := by decide +kernel
theorem dX13_readPart_17 : decode cX13_readPart 17 = .ok (.iconst 1, 1) := by decide +kernel
theorem dX13_readPart_18 : decode cX13_readPart 18 = .ok (.if_icmp .ne 8, 3) := by decide +kernel
theorem dX13_readPart_21 : decode cX13_readPart 21 = .ok (.aload_n 0, 1) := by decide +kernel
theorem dX13_readPart_22 : decode cX13_readPart 22 = .ok (.iconst 3, 1) := by decide +kernel
theorem dX13_readPart_23 : decode cX13_readPart 23 = .ok (.invokevirtual 120, 3) := by decide +kernel
theorem dX13_readPart_26 : decode cX13_readPart 26 = .ok (.aload_n 0, 1) := by decide +kernel
theorem dX13_readPart_27 : decode cX13_readPart 27 = .ok (.getfield 16, 3) := by decide +kernel
theorem dX13_readPart_30 : decode cX13_readPart 30 = .ok (.iload_n 2, 1) := by decide +kernel
theorem dX13_readPart_31 : decode cX13_readPart 31 = .ok (.iconst 4, 1) := by decide +kernel
theorem dX13_readPart_32 : decode cX13_readPart 32 = .ok (.iadd, 1) := by decide +kernel
theorem dX13_readPart_33 : decode cX13_readPart 33 = .ok (.iconst 1, 1) := by decide +kernel
theorem dX13_readPart_34 : decode cX13_readPart 34 = .ok (.iastore, 1) := by decide +kernel
theorem dX13_readPart_35 : decode cX13_readPart 35 = .ok (.goto 294, 3) := by decide +kernel
theorem dX13_readPart_38 : decode cX13_readPart 38 = .ok (.aload_n 0, 1) := by decide +kernel
theorem dX13_readPart_39 : decode cX13_readPart 39 = .ok (.bipush 14, 2) := by decide +kernel
theorem dX13_readPart_41 : decode cX13_readPart 41 = .ok (.invokevirtual 145, 3) := by decide +kernel
theorem dX13_readPart_44 : decode cX13_readPart 44 = .ok (.ifCond .eq 104, 3) := by decide +kernel
theorem dX13_readPart_47 : decode cX13_readPart 47 = .ok (.aload_n 0, 1) := by decide +kernel
theorem dX13_readPart_48 : decode cX13_readPart 48 = .ok (.getfield 28, 3) := by decide +kernel
theorem dX13_readPart_51 : decode cX13_readPart 51 = .ok (.bipush 22, 2) := by decide +kernel
theorem dX13_readPart_53 : decode cX13_readPart 53 = .ok (.iload_n 1, 1) := by decide +kernel
theorem dX13_readPart_54 : decode cX13_readPart 54 = .ok (.iadd, 1) := by decide +kernel
theorem dX13_readPart_55 : decode cX13_readPart 55 = .ok (.iaload, 1) := by decide +kernel
theorem dX13_readPart_56 : decode cX13_readPart 56 = .ok (.invokestatic 154, 3) := by decide +kernel
theorem dX13_readPart_59 : decode cX13_readPart 59 = .ok (.iconst 4, 1) := by decide +kernel
theorem dX13_readPart_60 : decode cX13_readPart 60 = .ok (.if_icmp .ne 8, 3) := by decide +kernel
theorem dX13_readPart_63 : decode cX13_readPart 63 = .ok (.aload_n 0, 1) := by decide +kernel
theorem dX13_readPart_64 : decode cX13_readPart 64 = .ok (.iconst 2, 1) := by decide +kernel
theorem dX13_readPart_65 : decode cX13_readPart 65 = .ok (.invokevirtual 120, 3) := by decide +kernel
theorem dX13_readPart_68 : decode cX13_readPart 68 = .ok (.aload_n 0, 1) := by decide +kernel
theorem dX13_readPart_69 : decode cX13_readPart 69 = .ok (.invokevirtual 128, 3) := by decide +kernel
theorem dX13_readPart_72 : decode cX13_readPart 72 = .ok (.aload_n 0, 1) := by decide +kernel
theorem dX13_readPart_73 : decode cX13_readPart 73 = .ok (.iconst 0, 1) := by decide +kernel
theorem dX13_readPart_74 : decode cX13_readPart 74 = .ok (.invokevirtual 139, 3) := by decide +kernel
theorem dX13_readPart_77 : decode cX13_readPart 77 = .ok (.istore_n 3, 1) := by decide +kernel
theorem dX13_readPart_78 : decode cX13_readPart 78 = .ok (.aload_n 0, 1) := by decide +kernel
theorem dX13_readPart_79 : decode cX13_readPart 79 = .ok (.getfield 111, 3) := by decide +kernel
theorem dX13_readPart_82 : decode cX13_readPart 82 = .ok (.ifCond .ne 37, 3) := by decide +kernel
theorem dX13_readPart_85 : decode cX13_readPart 85 = .ok (.iload_n 3, 1) := by decide +kernel
theorem dX13_readPart_86 : decode cX13_readPart 86 = .ok (.aload_n 0, 1) := by decide +kernel
theorem dX13_readPart_87 : decode cX13_readPart 87 = .ok (.getfield 16, 3) := by decide +kernel
theorem dX13_readPart_90 : decode cX13_readPart 90 = .ok (.iload_n 2, 1) := by decide +kernel
theorem dX13_readPart_91 : decode cX13_readPart 91 = .ok (.iconst 0, 1) := by decide +kernel
theorem dX13_readPart_92 : decode cX13_readPart 92 = .ok (.iadd, 1) := by decide +kernel
theorem dX13_readPart_93 : decode cX13_readPart 93 = .ok (.iaload, 1) := by decide +kernel
theorem dX13_readPart_94 : decode cX13_readPart 94 = .ok (.if_icmp .eq 20, 3) := by decide +kernel
theorem dX13_readPart_97 : decode cX13_readPart 97 = .ok (.aload_n 0, 1) := by decide +kernel
theorem dX13_readPart_98 : decode cX13_readPart 98 = .ok (.getfield 28, 3) := by decide +kernel
theorem dX13_readPart_101 : decode cX13_readPart 101 = .ok (.bipush 22, 2) := by decide +kernel
theorem dX13_readPart_103 : decode cX13_readPart 103 = .ok (.iload_n 1, 1) := by decide +kernel
theorem dX13_readPart_104 : decode cX13_readPart 104 = .ok (.iadd, 1) := by decide +kernel
theorem dX13_readPart_105 : decode cX13_readPart 105 = .ok (.iaload, 1) := by decide +kernel
theorem dX13_readPart_106 : decode cX13_readPart 106 = .ok (.iload_n 3, 1) := by decide +kernel
theorem dX13_readPart_107 : decode cX13_readPart 107 = .ok (.ishr, 1) := by decide +kernel
theorem dX13_readPart_108 : decode cX13_readPart 108 = .ok (.iconst 1, 1) := by decide +kernel
theorem dX13_readPart_109 : decode cX13_readPart 109 = .ok (.iand, 1) := by decide +kernel
theorem dX13_readPart_110 : decode cX13_readPart 110 = .ok (.iconst 1, 1) := by decide +kernel
theorem dX13_readPart_111 : decode cX13_readPart 111 = .ok (.if_icmp .ne 8, 3) := by decide +kernel
theorem dX13_readPart_114 : decode cX13_readPart 114 = .ok (.aload_n 0, 1) := by decide +kernel
theorem dX13_readPart_115 : decode cX13_readPart 115 = .ok (.iconst 3, 1) := by decide +kernel
theorem dX13_readPart_116 : decode cX13_readPart 116 = .ok (.invokevirtual 120, 3) := by decide +kernel
theorem dX13_readPart_119 : decode cX13_readPart 119 = .ok (.aload_n 0, 1) := by decide +kernel
theorem dX13_readPart_120 : decode cX13_readPart 120 = .ok (.getfield 28, 3) := by decide +kernel
theorem dX13_readPart_123 : decode cX13_readPart 123 = .ok (.bipush 22, 2) := by decide +kernel
theorem dX13_readPart_125 : decode cX13_readPart 125 = .ok (.iload_n 1, 1) := by decide +kernel
theorem dX13_readPart_126 : decode cX13_readPart 126 = .ok (.iadd, 1) := by decide +kernel
theorem dX13_readPart_127 : decode cX13_readPart 127 = .ok (.dup2, 1) := by decide +kernel
theorem dX13_readPart_128 : decode cX13_readPart 128 = .ok (.iaload, 1) := by decide +kernel
theorem dX13_readPart_129 : decode cX13_readPart 129 = .ok (.aload_n 0, 1) := by decide +kernel
theorem dX13_readPart_130 : decode cX13_readPart 130 = .ok (.getfield 111, 3) := by decide +kernel
theorem dX13_readPart_133 : decode cX13_readPart 133 = .ok (.ifCond .ne 9, 3) := by decide +kernel
theorem dX13_readPart_136 : decode cX13_readPart 136 = .ok (.iconst 1, 1) := by decide +kernel
theorem dX13_readPart_137 : decode cX13_readPart 137 = .ok (.iload_n 3, 1) := by decide +kernel
theorem dX13_readPart_138 : decode cX13_readPart 138 = .ok (.ishl, 1) := by decide +kernel
theorem dX13_readPart_139 : decode cX13_readPart 139 = .ok (.goto 4, 3) := by decide +kernel
theorem dX13_readPart_142 : decode cX13_readPart 142 = .ok (.iconst 0, 1) := by decide +kernel
theorem dX13_readPart_143 : decode cX13_readPart 143 = .ok (.ior, 1) := by decide +kernel
theorem dX13_readPart_144 : decode cX13_readPart 144 = .ok (.iastore, 1) := by decide +kernel
theorem dX13_readPart_145 : decode cX13_readPart 145 = .ok (.goto 184, 3) := by decide +kernel
theorem dX13_readPart_148 : decode cX13_readPart 148 = .ok (.aload_n 0, 1) := by decide +kernel
theorem dX13_readPart_149 : decode cX13_readPart 149 = .ok (.bipush 15, 2) := by decide +kernel
theorem dX13_readPart_151 : decode cX13_readPart 151 = .ok (.invokevirtual 145, 3) := by decide +kernel
theorem dX13_readPart_154 : decode cX13_readPart 154 = .ok (.ifCond .eq 10, 3) := by decide +kernel
theorem dX13_readPart_157 : decode cX13_readPart 157 = .ok (.aload_n 0, 1) := by decide +kernel
theorem dX13_readPart_158 : decode cX13_readPart 158 = .ok (.iload_n 1, 1) := by decide +kernel
theorem dX13_readPart_159 : decode cX13_readPart 159 = .ok (.iload_n 2, 1) := by decide +kernel
theorem dX13_readPart_160 : decode cX13_readPart 160 = .ok (.invokevirtual 167, 3) := by decide +kernel
theorem dX13_readPart_163 : decode cX13_readPart 163 = .ok (.ireturn, 1) := by decide +kernel
theorem dX13_readPart_164 : decode cX13_readPart 164 = .ok (.aload_n 0, 1) := by decide +kernel
theorem dX13_readPart_165 : decode cX13_readPart 165 = .ok (.bipush 19, 2) := by decide +kernel
theorem dX13_readPart_167 : decode cX13_readPart 167 = .ok (.invokevirtual 145, 3) := by decide +kernel
theorem dX13_readPart_170 : decode cX13_readPart 170 = .ok (.ifCond .eq 43, 3) := by decide +kernel
theorem dX13_readPart_173 : decode cX13_readPart 173 = .ok (.aload_n 0, 1) := by decide +kernel
theorem dX13_readPart_174 : decode cX13_readPart 174 = .ok (.getfield 16, 3) := by decide +kernel
theorem dX13_readPart_177 : decode cX13_readPart 177 = .ok (.iload_n 2, 1) := by decide +kernel
theorem dX13_readPart_178 : decode cX13_readPart 178 = .ok (.bipush 6, 2) := by decide +kernel
theorem dX13_readPart_180 : decode cX13_readPart 180 = .ok (.iadd, 1) := by decide +kernel
theorem dX13_readPart_181 : decode cX13_readPart 181 = .ok (.iaload, 1) := by decide +kernel
theorem dX13_readPart_182 : decode cX13_readPart 182 = .ok (.bipush (-2), 2) := by decide +kernel
theorem dX13_readPart_184 : decode cX13_readPart 184 = .ok (.if_icmp .eq 8, 3) := by decide +kernel
theorem dX13_readPart_187 : decode cX13_readPart 187 = .ok (.aload_n 0, 1) := by decide +kernel
theorem dX13_readPart_188 : decode cX13_readPart 188 = .ok (.iconst 3, 1) := by decide +kernel
theorem dX13_readPart_189 : decode cX13_readPart 189 = .ok (.invokevirtual 120, 3) := by decide +kernel
theorem dX13_readPart_192 : decode cX13_readPart 192 = .ok (.aload_n 0, 1) := by decide +kernel
theorem dX13_readPart_193 : decode cX13_readPart 193 = .ok (.invokevirtual 128, 3) := by decide +kernel
theorem dX13_readPart_196 : decode cX13_readPart 196 = .ok (.aload_n 0, 1) := by decide +kernel
theorem dX13_readPart_197 : decode cX13_readPart 197 = .ok (.getfield 16, 3) := by decide +kernel
theorem dX13_readPart_200 : decode cX13_readPart 200 = .ok (.iload_n 2, 1) := by decide +kernel
theorem dX13_readPart_201 : decode cX13_readPart 201 = .ok (.bipush 6, 2) := by decide +kernel
theorem dX13_readPart_203 : decode cX13_readPart 203 = .ok (.iadd, 1) := by decide +kernel
theorem dX13_readPart_204 : decode cX13_readPart 204 = .ok (.aload_n 0, 1) := by decide +kernel
theorem dX13_readPart_205 : decode cX13_readPart 205 = .ok (.iconst 0, 1) := by decide +kernel
theorem dX13_readPart_206 : decode cX13_readPart 206 = .ok (.invokevirtual 139, 3) := by decide +kernel
theorem dX13_readPart_209 : decode cX13_readPart 209 = .ok (.iastore, 1) := by decide +kernel
theorem dX13_readPart_210 : decode cX13_readPart 210 = .ok (.goto 119, 3) := by decide +kernel
theorem dX13_readPart_213 : decode cX13_readPart 213 = .ok (.aload_n 0, 1) := by decide +kernel
theorem dX13_readPart_214 : decode cX13_readPart 214 = .ok (.bipush 20, 2) := by decide +kernel
theorem dX13_readPart_216 : decode cX13_readPart 216 = .ok (.invokevirtual 145, 3) := by decide +kernel
theorem dX13_readPart_219 : decode cX13_readPart 219 = .ok (.ifCond .eq 108, 3) := by decide +kernel
theorem dX13_readPart_222 : decode cX13_readPart 222 = .ok (.aload_n 0, 1) := by decide +kernel
theorem dX13_readPart_223 : decode cX13_readPart 223 = .ok (.getfield 22, 3) := by decide +kernel
theorem dX13_readPart_226 : decode cX13_readPart 226 = .ok (.iload_n 1, 1) := by decide +kernel
theorem dX13_readPart_227 : decode cX13_readPart 227 = .ok (.iaload, 1) := by decide +kernel
theorem dX13_readPart_228 : decode cX13_readPart 228 = .ok (.invokestatic 154, 3) := by decide +kernel
theorem dX13_readPart_231 : decode cX13_readPart 231 = .ok (.iconst 3, 1) := by decide +kernel
theorem dX13_readPart_232 : decode cX13_readPart 232 = .ok (.if_icmp .ne 8, 3) := by decide +kernel
theorem dX13_readPart_235 : decode cX13_readPart 235 = .ok (.aload_n 0, 1) := by decide +kernel
theorem dX13_readPart_236 : decode cX13_readPart 236 = .ok (.iconst 2, 1) := by decide +kernel
theorem dX13_readPart_237 : decode cX13_readPart 237 = .ok (.invokevirtual 120, 3) := by decide +kernel
theorem dX13_readPart_240 : decode cX13_readPart 240 = .ok (.aload_n 0, 1) := by decide +kernel
theorem dX13_readPart_241 : decode cX13_readPart 241 = .ok (.invokevirtual 128, 3) := by decide +kernel
theorem dX13_readPart_244 : decode cX13_readPart 244 = .ok (.aload_n 0, 1) := by decide +kernel
theorem dX13_readPart_245 : decode cX13_readPart 245 = .ok (.iconst 2, 1) := by decide +kernel
theorem dX13_readPart_246 : decode cX13_readPart 246 = .ok (.invokevirtual 139, 3) := by decide +kernel
theorem dX13_readPart_249 : decode cX13_readPart 249 = .ok (.istore_n 3, 1) := by decide +kernel
theorem dX13_readPart_250 : decode cX13_readPart 250 = .ok (.aload_n 0, 1) := by decide +kernel
theorem dX13_readPart_251 : decode cX13_readPart 251 = .ok (.getfield 111, 3) := by decide +kernel
theorem dX13_readPart_254 : decode cX13_readPart 254 = .ok (.ifCond .ne 47, 3) := by decide +kernel
theorem dX13_readPart_257 : decode cX13_readPart 257 = .ok (.aload_n 0, 1) := by decide +kernel
theorem dX13_readPart_258 : decode cX13_readPart 258 = .ok (.getfield 16, 3) := by decide +kernel
theorem dX13_readPart_261 : decode cX13_readPart 261 = .ok (.bipush 58, 2) := by decide +kernel
theorem dX13_readPart_263 : decode cX13_readPart 263 = .ok (.bipush 7, 2) := by decide +kernel
theorem dX13_readPart_265 : decode cX13_readPart 265 = .ok (.iload_n 3, 1) := by decide +kernel
theorem dX13_readPart_266 : decode cX13_readPart 266 = .ok (.imul, 1) := by decide +kernel
theorem dX13_readPart_267 : decode cX13_readPart 267 = .ok (.iadd, 1) := by decide +kernel
theorem dX13_readPart_268 : decode cX13_readPart 268 = .ok (.iconst 0, 1) := by decide +kernel
theorem dX13_readPart_269 : decode cX13_readPart 269 = .ok (.iadd, 1) := by decide +kernel
theorem dX13_readPart_270 : decode cX13_readPart 270 = .ok (.iaload, 1) := by decide +kernel
theorem dX13_readPart_271 : decode cX13_readPart 271 = .ok (.aload_n 0, 1) := by decide +kernel
theorem dX13_readPart_272 : decode cX13_readPart 272 = .ok (.getfield 16, 3) := by decide +kernel
theorem dX13_readPart_275 : decode cX13_readPart 275 = .ok (.iload_n 2, 1) := by decide +kernel
theorem dX13_readPart_276 : decode cX13_readPart 276 = .ok (.iconst 0, 1) := by decide +kernel
theorem dX13_readPart_277 : decode cX13_readPart 277 = .ok (.iadd, 1) := by decide +kernel
theorem dX13_readPart_278 : decode cX13_readPart 278 = .ok (.iaload, 1) := by decide +kernel
theorem dX13_readPart_279 : decode cX13_readPart 279 = .ok (.if_icmp .ne 17, 3) := by decide +kernel
theorem dX13_readPart_282 : decode cX13_readPart 282 = .ok (.aload_n 0, 1) := by decide +kernel
theorem dX13_readPart_283 : decode cX13_readPart 283 = .ok (.getfield 22, 3) := by decide +kernel
theorem dX13_readPart_286 : decode cX13_readPart 286 = .ok (.iload_n 1, 1) := by decide +kernel
theorem dX13_readPart_287 : decode cX13_readPart 287 = .ok (.iaload, 1) := by decide +kernel
theorem dX13_readPart_288 : decode cX13_readPart 288 = .ok (.iload_n 3, 1) := by decide +kernel
theorem dX13_readPart_289 : decode cX13_readPart 289 = .ok (.ishr, 1) := by decide +kernel
theorem dX13_readPart_290 : decode cX13_readPart 290 = .ok (.iconst 1, 1) := by decide +kernel
theorem dX13_readPart_291 : decode cX13_readPart 291 = .ok (.iand, 1) := by decide +kernel
theorem dX13_readPart_292 : decode cX13_readPart 292 = .ok (.iconst 1, 1) := by decide +kernel
theorem dX13_readPart_293 : decode cX13_readPart 293 = .ok (.if_icmp .ne 8, 3) := by decide +kernel
theorem dX13_readPart_296 : decode cX13_readPart 296 = .ok (.aload_n 0, 1) := by decide +kernel
theorem dX13_readPart_297 : decode cX13_readPart 297 = .ok (.iconst 3, 1) := by decide +kernel
theorem dX13_readPart_298 : decode cX13_readPart 298 = .ok (.invokevirtual 120, 3) := by decide +kernel
theorem dX13_readPart_301 : decode cX13_readPart 301 = .ok (.aload_n 0, 1) := by decide +kernel
theorem dX13_readPart_302 : decode cX13_readPart 302 = .ok (.getfield 22, 3) := by decide +kernel
theorem dX13_readPart_305 : decode cX13_readPart 305 = .ok (.iload_n 1, 1) := by decide +kernel
theorem dX13_readPart_306 : decode cX13_readPart 306 = .ok (.dup2, 1) := by decide +kernel
theorem dX13_readPart_307 : decode cX13_readPart 307 = .ok (.iaload, 1) := by decide +kernel
theorem dX13_readPart_308 : decode cX13_readPart 308 = .ok (.aload_n 0, 1) := by decide +kernel
theorem dX13_readPart_309 : decode cX13_readPart 309 = .ok (.getfield 111, 3) := by decide +kernel
theorem dX13_readPart_312 : decode cX13_readPart 312 = .ok (.ifCond .ne 9, 3) := by decide +kernel
theorem dX13_readPart_315 : decode cX13_readPart 315 = .ok (.iconst 1, 1) := by decide +kernel
theorem dX13_readPart_316 : decode cX13_readPart 316 = .ok (.iload_n 3, 1) := by decide +kernel
theorem dX13_readPart_317 : decode cX13_readPart 317 = .ok (.ishl, 1) := by decide +kernel
theorem dX13_readPart_318 : decode cX13_readPart 318 = .ok (.goto 4, 3) := by decide +kernel
theorem dX13_readPart_321 : decode cX13_readPart 321 = .ok (.iconst 0, 1) := by decide +kernel
theorem dX13_readPart_322 : decode cX13_readPart 322 = .ok (.ior, 1) := by decide +kernel
theorem dX13_readPart_323 : decode cX13_readPart 323 = .ok (.iastore, 1) := by decide +kernel
theorem dX13_readPart_324 : decode cX13_readPart 324 = .ok (.goto 5, 3) := by decide +kernel
theorem dX13_readPart_327 : decode cX13_readPart 327 = .ok (.iconst 0, 1) := by decide +kernel
theorem dX13_readPart_328 : decode cX13_readPart 328 = .ok (.ireturn, 1) := by decide +kernel
theorem dX13_readPart_329 : decode cX13_readPart 329 = .ok (.iconst 1, 1) := by decide +kernel
theorem dX13_readPart_330 : decode cX13_readPart 330 = .ok (.ireturn, 1) := by decide +kernel
theorem dX13_readGive_0 : decode cX13_readGive 0 = .ok (.aload_n 0, 1) := by decide +kernel
theorem dX13_readGive_1 : decode cX13_readGive 1 = .ok (.getfield 16, 3) := by decide +kernel
theorem dX13_readGive_4 : decode cX13_readGive 4 = .ok (.iload_n 2, 1) := by decide +kernel
theorem dX13_readGive_5 : decode cX13_readGive 5 = .ok (.iconst 5, 1) := by decide +kernel
theorem dX13_readGive_6 : decode cX13_readGive 6 = .ok (.iadd, 1) := by decide +kernel
theorem dX13_readGive_7 : decode cX13_readGive 7 = .ok (.iaload, 1) := by decide +kernel
theorem dX13_readGive_8 : decode cX13_readGive 8 = .ok (.bipush 6, 2) := by decide +kernel
theorem dX13_readGive_10 : decode cX13_readGive 10 = .ok (.if_icmp .ne 8, 3) := by decide +kernel
theorem dX13_readGive_13 : decode cX13_readGive 13 = .ok (.aload_n 0, 1) := by decide +kernel
theorem dX13_readGive_14 : decode cX13_readGive 14 = .ok (.iconst 2, 1) := by decide +kernel
theorem dX13_readGive_15 : decode cX13_readGive 15 = .ok (.invokevirtual 120, 3) := by decide +kernel
theorem dX13_readGive_18 : decode cX13_readGive 18 = .ok (.aload_n 0, 1) := by decide +kernel
theorem dX13_readGive_19 : decode cX13_readGive 19 = .ok (.invokevirtual 128, 3) := by decide +kernel
theorem dX13_readGive_22 : decode cX13_readGive 22 = .ok (.aload_n 0, 1) := by decide +kernel
theorem dX13_readGive_23 : decode cX13_readGive 23 = .ok (.iconst 1, 1) := by decide +kernel
theorem dX13_readGive_24 : decode cX13_readGive 24 = .ok (.invokevirtual 151, 3) := by decide +kernel
theorem dX13_readGive_27 : decode cX13_readGive 27 = .ok (.istore_n 3, 1) := by decide +kernel
theorem dX13_readGive_28 : decode cX13_readGive 28 = .ok (.aload_n 0, 1) := by decide +kernel
theorem dX13_readGive_29 : decode cX13_readGive 29 = .ok (.iconst 0, 1) := by decide +kernel
theorem dX13_readGive_30 : decode cX13_readGive 30 = .ok (.invokevirtual 151, 3) := by decide +kernel
theorem dX13_readGive_33 : decode cX13_readGive 33 = .ok (.istore 4, 2) := by decide +kernel
theorem dX13_readGive_35 : decode cX13_readGive 35 = .ok (.aload_n 0, 1) := by decide +kernel
theorem dX13_readGive_36 : decode cX13_readGive 36 = .ok (.bipush 16, 2) := by decide +kernel
theorem dX13_readGive_38 : decode cX13_readGive 38 = .ok (.invokevirtual 145, 3) := by decide +kernel
theorem dX13_readGive_41 : decode cX13_readGive 41 = .ok (.ifCond .eq 7, 3) := by decide +kernel
theorem dX13_readGive_44 : decode cX13_readGive 44 = .ok (.iconst 1, 1) := by decide +kernel
theorem dX13_readGive_45 : decode cX13_readGive 45 = .ok (.goto 17, 3) := by decide +kernel
theorem dX13_readGive_48 : decode cX13_readGive 48 = .ok (.aload_n 0, 1) := by decide +kernel
theorem dX13_readGive_49 : decode cX13_readGive 49 = .ok (.bipush 17, 2) := by decide +kernel
theorem dX13_readGive_51 : decode cX13_readGive 51 = .ok (.invokevirtual 145, 3) := by decide +kernel
theorem dX13_readGive_54 : decode cX13_readGive 54 = .ok (.ifCond .eq 7, 3) := by decide +kernel
theorem dX13_readGive_57 : decode cX13_readGive 57 = .ok (.iconst 2, 1) := by decide +kernel
theorem dX13_readGive_58 : decode cX13_readGive 58 = .ok (.goto 4, 3) := by decide +kernel
theorem dX13_readGive_61 : decode cX13_readGive 61 = .ok (.iconst 0, 1) := by decide +kernel
theorem dX13_readGive_62 : decode cX13_readGive 62 = .ok (.istore 5, 2) := by decide +kernel
theorem dX13_readGive_64 : decode cX13_readGive 64 = .ok (.bipush (-2), 2) := by decide +kernel
theorem dX13_readGive_66 : decode cX13_readGive 66 = .ok (.istore 6, 2) := by decide +kernel
theorem dX13_readGive_68 : decode cX13_readGive 68 = .ok (.bipush (-2), 2) := by decide +kernel
theorem dX13_readGive_70 : decode cX13_readGive 70 = .ok (.istore 7, 2) := by decide +kernel
theorem dX13_readGive_72 : decode cX13_readGive 72 = .ok (.iload 5, 2) := by decide +kernel
theorem dX13_readGive_74 : decode cX13_readGive 74 = .ok (.ifCond .le 14, 3) := by decide +kernel
theorem dX13_readGive_77 : decode cX13_readGive 77 = .ok (.aload_n 0, 1) := by decide +kernel
theorem dX13_readGive_78 : decode cX13_readGive 78 = .ok (.invokevirtual 128, 3) := by decide +kernel
theorem dX13_readGive_81 : decode cX13_readGive 81 = .ok (.aload_n 0, 1) := by decide +kernel
theorem dX13_readGive_82 : decode cX13_readGive 82 = .ok (.iconst 0, 1) := by decide +kernel
theorem dX13_readGive_83 : decode cX13_readGive 83 = .ok (.invokevirtual 151, 3) := by decide +kernel
theorem dX13_readGive_86 : decode cX13_readGive 86 = .ok (.istore 6, 2) := by decide +kernel
theorem dX13_readGive_88 : decode cX13_readGive 88 = .ok (.aload_n 0, 1) := by decide +kernel
theorem dX13_readGive_89 : decode cX13_readGive 89 = .ok (.bipush 18, 2) := by decide +kernel
theorem dX13_readGive_91 : decode cX13_readGive 91 = .ok (.invokevirtual 145, 3) := by decide +kernel
theorem dX13_readGive_94 : decode cX13_readGive 94 = .ok (.ifCond .eq 14, 3) := by decide +kernel
theorem dX13_readGive_97 : decode cX13_readGive 97 = .ok (.aload_n 0, 1) := by decide +kernel
theorem dX13_readGive_98 : decode cX13_readGive 98 = .ok (.invokevirtual 128, 3) := by decide +kernel
theorem dX13_readGive_101 : decode cX13_readGive 101 = .ok (.aload_n 0, 1) := by decide +kernel
theorem dX13_readGive_102 : decode cX13_readGive 102 = .ok (.iconst 0, 1) := by decide +kernel
theorem dX13_readGive_103 : decode cX13_readGive 103 = .ok (.invokevirtual 151, 3) := by decide +kernel
theorem dX13_readGive_106 : decode cX13_readGive 106 = .ok (.istore 7, 2) := by decide +kernel
theorem dX13_readGive_108 : decode cX13_readGive 108 = .ok (.aload_n 0, 1) := by decide +kernel
theorem dX13_readGive_109 : decode cX13_readGive 109 = .ok (.getfield 111, 3) := by decide +kernel
theorem dX13_readGive_112 : decode cX13_readGive 112 = .ok (.ifCond .eq 5, 3) := by decide +kernel
theorem dX13_readGive_115 : decode cX13_readGive 115 = .ok (.iconst 0, 1) := by decide +kernel
theorem dX13_readGive_116 : decode cX13_readGive 116 = .ok (.ireturn, 1) := by decide +kernel
theorem dX13_readGive_117 : decode cX13_readGive 117 = .ok (.sipush 142, 3) := by decide +kernel
theorem dX13_readGive_120 : decode cX13_readGive 120 = .ok (.iconst 5, 1) := by decide +kernel
theorem dX13_readGive_121 : decode cX13_readGive 121 = .ok (.bipush 6, 2) := by decide +kernel
theorem dX13_readGive_123 : decode cX13_readGive 123 = .ok (.iload_n 1, 1) := by decide +kernel
theorem dX13_readGive_124 : decode cX13_readGive 124 = .ok (.imul, 1) := by decide +kernel
theorem dX13_readGive_125 : decode cX13_readGive 125 = .ok (.aload_n 0, 1) := by decide +kernel
theorem dX13_readGive_126 : decode cX13_readGive 126 = .ok (.getfield 16, 3) := by decide +kernel
theorem dX13_readGive_129 : decode cX13_readGive 129 = .ok (.iload_n 2, 1) := by decide +kernel
theorem dX13_readGive_130 : decode cX13_readGive 130 = .ok (.iconst 5, 1) := by decide +kernel
theorem dX13_readGive_131 : decode cX13_readGive 131 = .ok (.iadd, 1) := by decide +kernel
theorem dX13_readGive_132 : decode cX13_readGive 132 = .ok (.iaload, 1) := by decide +kernel
theorem dX13_readGive_133 : decode cX13_readGive 133 = .ok (.iadd, 1) := by decide +kernel
theorem dX13_readGive_134 : decode cX13_readGive 134 = .ok (.imul, 1) := by decide +kernel
theorem dX13_readGive_135 : decode cX13_readGive 135 = .ok (.iadd, 1) := by decide +kernel
theorem dX13_readGive_136 : decode cX13_readGive 136 = .ok (.istore 8, 2) := by decide +kernel
theorem dX13_readGive_138 : decode cX13_readGive 138 = .ok (.aload_n 0, 1) := by decide +kernel
theorem dX13_readGive_139 : decode cX13_readGive 139 = .ok (.getfield 16, 3) := by decide +kernel
theorem dX13_readGive_142 : decode cX13_readGive 142 = .ok (.iload 8, 2) := by decide +kernel
theorem dX13_readGive_144 : decode cX13_readGive 144 = .ok (.iload_n 3, 1) := by decide +kernel
theorem dX13_readGive_145 : decode cX13_readGive 145 = .ok (.iastore, 1) := by decide +kernel
theorem dX13_readGive_146 : decode cX13_readGive 146 = .ok (.aload_n 0, 1) := by decide +kernel
theorem dX13_readGive_147 : decode cX13_readGive 147 = .ok (.getfield 16, 3) := by decide +kernel
theorem dX13_readGive_150 : decode cX13_readGive 150 = .ok (.iload 8, 2) := by decide +kernel
theorem dX13_readGive_152 : decode cX13_readGive 152 = .ok (.iconst 1, 1) := by decide +kernel
theorem dX13_readGive_153 : decode cX13_readGive 153 = .ok (.iadd, 1) := by decide +kernel
theorem dX13_readGive_154 : decode cX13_readGive 154 = .ok (.iload 4, 2) := by decide +kernel
theorem dX13_readGive_156 : decode cX13_readGive 156 = .ok (.iastore, 1) := by decide +kernel
theorem dX13_readGive_157 : decode cX13_readGive 157 = .ok (.aload_n 0, 1) := by decide +kernel
theorem dX13_readGive_158 : decode cX13_readGive 158 = .ok (.getfield 16, 3) := by decide +kernel
theorem dX13_readGive_161 : decode cX13_readGive 161 = .ok (.iload 8, 2) := by decide +kernel
theorem dX13_readGive_163 : decode cX13_readGive 163 = .ok (.iconst 2, 1) := by decide +kernel
theorem dX13_readGive_164 : decode cX13_readGive 164 = .ok (.iadd, 1) := by decide +kernel
theorem dX13_readGive_165 : decode cX13_readGive 165 = .ok (.iload 5, 2) := by decide +kernel
theorem dX13_readGive_167 : decode cX13_readGive 167 = .ok (.iastore, 1) := by decide +kernel
theorem dX13_readGive_168 : decode cX13_readGive 168 = .ok (.aload_n 0, 1) := by decide +kernel
theorem dX13_readGive_169 : decode cX13_readGive 169 = .ok (.getfield 16, 3) := by decide +kernel
theorem dX13_readGive_172 : decode cX13_readGive 172 = .ok (.iload 8, 2) := by decide +kernel
theorem dX13_readGive_174 : decode cX13_readGive 174 = .ok (.iconst 3, 1) := by decide +kernel
theorem dX13_readGive_175 : decode cX13_readGive 175 = .ok (.iadd, 1) := by decide +kernel
theorem dX13_readGive_176 : decode cX13_readGive 176 = .ok (.iload 6, 2) := by decide +kernel
theorem dX13_readGive_178 : decode cX13_readGive 178 = .ok (.iastore, 1) := by decide +kernel
theorem dX13_readGive_179 : decode cX13_readGive 179 = .ok (.aload_n 0, 1) := by decide +kernel
theorem dX13_readGive_180 : decode cX13_readGive 180 = .ok (.getfield 16, 3) := by decide +kernel
theorem dX13_readGive_183 : decode cX13_readGive 183 = .ok (.iload 8, 2) := by decide +kernel
theorem dX13_readGive_185 : decode cX13_readGive 185 = .ok (.iconst 4, 1) := by decide +kernel
theorem dX13_readGive_186 : decode cX13_readGive 186 = .ok (.iadd, 1) := by decide +kernel
theorem dX13_readGive_187 : decode cX13_readGive 187 = .ok (.iload 7, 2) := by decide +kernel
theorem dX13_readGive_189 : decode cX13_readGive 189 = .ok (.iastore, 1) := by decide +kernel
theorem dX13_readGive_190 : decode cX13_readGive 190 = .ok (.aload_n 0, 1) := by decide +kernel
theorem dX13_readGive_191 : decode cX13_readGive 191 = .ok (.getfield 16, 3) := by decide +kernel
theorem dX13_readGive_194 : decode cX13_readGive 194 = .ok (.iload_n 2, 1) := by decide +kernel
theorem dX13_readGive_195 : decode cX13_readGive 195 = .ok (.iconst 5, 1) := by decide +kernel
theorem dX13_readGive_196 : decode cX13_readGive 196 = .ok (.iadd, 1) := by decide +kernel
theorem dX13_readGive_197 : decode cX13_readGive 197 = .ok (.dup2, 1) := by decide +kernel
theorem dX13_readGive_198 : decode cX13_readGive 198 = .ok (.iaload, 1) := by decide +kernel
theorem dX13_readGive_199 : decode cX13_readGive 199 = .ok (.iconst 1, 1) := by decide +kernel
theorem dX13_readGive_200 : decode cX13_readGive 200 = .ok (.iadd, 1) := by decide +kernel
theorem dX13_readGive_201 : decode cX13_readGive 201 = .ok (.iastore, 1) := by decide +kernel
theorem dX13_readGive_202 : decode cX13_readGive 202 = .ok (.aload_n 0, 1) := by decide +kernel
theorem dX13_readGive_203 : decode cX13_readGive 203 = .ok (.iload_n 1, 1) := by decide +kernel
theorem dX13_readGive_204 : decode cX13_readGive 204 = .ok (.iload_n 2, 1) := by decide +kernel
theorem dX13_readGive_205 : decode cX13_readGive 205 = .ok (.invokevirtual 163, 3) := by decide +kernel
theorem dX13_readGive_208 : decode cX13_readGive 208 = .ok (.ireturn, 1) := by decide +kernel
theorem dX13_readLost_0 : decode cX13_readLost 0 = .ok (.aload_n 0, 1) := by decide +kernel
theorem dX13_readLost_1 : decode cX13_readLost 1 = .ok (.invokevirtual 128, 3) := by decide +kernel
theorem dX13_readLost_4 : decode cX13_readLost 4 = .ok (.aload_n 0, 1) := by decide +kernel
theorem dX13_readLost_5 : decode cX13_readLost 5 = .ok (.iconst 2, 1) := by decide +kernel
theorem dX13_readLost_6 : decode cX13_readLost 6 = .ok (.invokevirtual 139, 3) := by decide +kernel
theorem dX13_readLost_9 : decode cX13_readLost 9 = .ok (.istore_n 1, 1) := by decide +kernel
theorem dX13_readLost_10 : decode cX13_readLost 10 = .ok (.aload_n 0, 1) := by decide +kernel
theorem dX13_readLost_11 : decode cX13_readLost 11 = .ok (.getfield 111, 3) := by decide +kernel
theorem dX13_readLost_14 : decode cX13_readLost 14 = .ok (.ifCond .ne 22, 3) := by decide +kernel
theorem dX13_readLost_17 : decode cX13_readLost 17 = .ok (.aload_n 0, 1) := by decide +kernel
theorem dX13_readLost_18 : decode cX13_readLost 18 = .ok (.getfield 28, 3) := by decide +kernel
theorem dX13_readLost_21 : decode cX13_readLost 21 = .ok (.bipush 10, 2) := by decide +kernel
theorem dX13_readLost_23 : decode cX13_readLost 23 = .ok (.iload_n 1, 1) := by decide +kernel
theorem dX13_readLost_24 : decode cX13_readLost 24 = .ok (.iadd, 1) := by decide +kernel
theorem dX13_readLost_25 : decode cX13_readLost 25 = .ok (.iaload, 1) := by decide +kernel
theorem dX13_readLost_26 : decode cX13_readLost 26 = .ok (.bipush (-2), 2) := by decide +kernel
theorem dX13_readLost_28 : decode cX13_readLost 28 = .ok (.if_icmp .eq 8, 3) := by decide +kernel
theorem dX13_readLost_31 : decode cX13_readLost 31 = .ok (.aload_n 0, 1) := by decide +kernel
theorem dX13_readLost_32 : decode cX13_readLost 32 = .ok (.iconst 3, 1) := by decide +kernel
theorem dX13_readLost_33 : decode cX13_readLost 33 = .ok (.invokevirtual 120, 3) := by decide +kernel
theorem dX13_readLost_36 : decode cX13_readLost 36 = .ok (.aload_n 0, 1) := by decide +kernel
theorem dX13_readLost_37 : decode cX13_readLost 37 = .ok (.invokevirtual 128, 3) := by decide +kernel
theorem dX13_readLost_40 : decode cX13_readLost 40 = .ok (.aload_n 0, 1) := by decide +kernel
theorem dX13_readLost_41 : decode cX13_readLost 41 = .ok (.iconst 0, 1) := by decide +kernel
theorem dX13_readLost_42 : decode cX13_readLost 42 = .ok (.iconst 3, 1) := by decide +kernel
theorem dX13_readLost_43 : decode cX13_readLost 43 = .ok (.invokevirtual 142, 3) := by decide +kernel
theorem dX13_readLost_46 : decode cX13_readLost 46 = .ok (.istore_n 2, 1) := by decide +kernel
theorem dX13_readLost_47 : decode cX13_readLost 47 = .ok (.aload_n 0, 1) := by decide +kernel
theorem dX13_readLost_48 : decode cX13_readLost 48 = .ok (.getfield 111, 3) := by decide +kernel
theorem dX13_readLost_51 : decode cX13_readLost 51 = .ok (.ifCond .ne 13, 3) := by decide +kernel
theorem dX13_readLost_54 : decode cX13_readLost 54 = .ok (.aload_n 0, 1) := by decide +kernel
theorem dX13_readLost_55 : decode cX13_readLost 55 = .ok (.getfield 28, 3) := by decide +kernel
theorem dX13_readLost_58 : decode cX13_readLost 58 = .ok (.bipush 10, 2) := by decide +kernel
theorem dX13_readLost_60 : decode cX13_readLost 60 = .ok (.iload_n 1, 1) := by decide +kernel
theorem dX13_readLost_61 : decode cX13_readLost 61 = .ok (.iadd, 1) := by decide +kernel
theorem dX13_readLost_62 : decode cX13_readLost 62 = .ok (.iload_n 2, 1) := by decide +kernel
theorem dX13_readLost_63 : decode cX13_readLost 63 = .ok (.iastore, 1) := by decide +kernel
theorem dX13_readLost_64 : decode cX13_readLost 64 = .ok (.return_, 1) := by decide +kernel
theorem dX13_readDies_0 : decode cX13_readDies 0 = .ok (.aload_n 0, 1) := by decide +kernel
theorem dX13_readDies_1 : decode cX13_readDies 1 = .ok (.invokevirtual 128, 3) := by decide +kernel
theorem dX13_readDies_4 : decode cX13_readDies 4 = .ok (.aload_n 0, 1) := by decide +kernel
theorem dX13_readDies_5 : decode cX13_readDies 5 = .ok (.iconst 0, 1) := by decide +kernel
theorem dX13_readDies_6 : decode cX13_readDies 6 = .ok (.invokevirtual 139, 3) := by decide +kernel
theorem dX13_readDies_9 : decode cX13_readDies 9 = .ok (.istore_n 1, 1) := by decide +kernel
theorem dX13_readDies_10 : decode cX13_readDies 10 = .ok (.aload_n 0, 1) := by decide +kernel
theorem dX13_readDies_11 : decode cX13_readDies 11 = .ok (.getfield 111, 3) := by decide +kernel
theorem dX13_readDies_14 : decode cX13_readDies 14 = .ok (.ifCond .ne 21, 3) := by decide +kernel
theorem dX13_readDies_17 : decode cX13_readDies 17 = .ok (.aload_n 0, 1) := by decide +kernel
theorem dX13_readDies_18 : decode cX13_readDies 18 = .ok (.getfield 28, 3) := by decide +kernel
theorem dX13_readDies_21 : decode cX13_readDies 21 = .ok (.iconst 0, 1) := by decide +kernel
theorem dX13_readDies_22 : decode cX13_readDies 22 = .ok (.iload_n 1, 1) := by decide +kernel
theorem dX13_readDies_23 : decode cX13_readDies 23 = .ok (.iadd, 1) := by decide +kernel
theorem dX13_readDies_24 : decode cX13_readDies 24 = .ok (.iaload, 1) := by decide +kernel
theorem dX13_readDies_25 : decode cX13_readDies 25 = .ok (.bipush (-2), 2) := by decide +kernel
theorem dX13_readDies_27 : decode cX13_readDies 27 = .ok (.if_icmp .eq 8, 3) := by decide +kernel
theorem dX13_readDies_30 : decode cX13_readDies 30 = .ok (.aload_n 0, 1) := by decide +kernel
theorem dX13_readDies_31 : decode cX13_readDies 31 = .ok (.iconst 3, 1) := by decide +kernel
theorem dX13_readDies_32 : decode cX13_readDies 32 = .ok (.invokevirtual 120, 3) := by decide +kernel
theorem dX13_readDies_35 : decode cX13_readDies 35 = .ok (.aload_n 0, 1) := by decide +kernel
theorem dX13_readDies_36 : decode cX13_readDies 36 = .ok (.invokevirtual 128, 3) := by decide +kernel
theorem dX13_readDies_39 : decode cX13_readDies 39 = .ok (.aload_n 0, 1) := by decide +kernel
theorem dX13_readDies_40 : decode cX13_readDies 40 = .ok (.iconst 0, 1) := by decide +kernel
theorem dX13_readDies_41 : decode cX13_readDies 41 = .ok (.sipush 9999, 3) := by decide +kernel
theorem dX13_readDies_44 : decode cX13_readDies 44 = .ok (.invokevirtual 142, 3) := by decide +kernel
theorem dX13_readDies_47 : decode cX13_readDies 47 = .ok (.istore_n 2, 1) := by decide +kernel
theorem dX13_readDies_48 : decode cX13_readDies 48 = .ok (.aload_n 0, 1) := by decide +kernel
theorem dX13_readDies_49 : decode cX13_readDies 49 = .ok (.getfield 111, 3) := by decide +kernel
theorem dX13_readDies_52 : decode cX13_readDies 52 = .ok (.ifCond .ne 12, 3) := by decide +kernel
theorem dX13_readDies_55 : decode cX13_readDies 55 = .ok (.aload_n 0, 1) := by decide +kernel
theorem dX13_readDies_56 : decode cX13_readDies 56 = .ok (.getfield 28, 3) := by decide +kernel
theorem dX13_readDies_59 : decode cX13_readDies 59 = .ok (.iconst 0, 1) := by decide +kernel
theorem dX13_readDies_60 : decode cX13_readDies 60 = .ok (.iload_n 1, 1) := by decide +kernel
theorem dX13_readDies_61 : decode cX13_readDies 61 = .ok (.iadd, 1) := by decide +kernel
theorem dX13_readDies_62 : decode cX13_readDies 62 = .ok (.iload_n 2, 1) := by decide +kernel
theorem dX13_readDies_63 : decode cX13_readDies 63 = .ok (.iastore, 1) := by decide +kernel
theorem dX13_readDies_64 : decode cX13_readDies 64 = .ok (.return_, 1) := by decide +kernel
theorem dX13_readLine_0 : decode cX13_readLine 0 = .ok (.aload_n 0, 1) := by decide +kernel
theorem dX13_readLine_1 : decode cX13_readLine 1 = .ok (.getfield 80, 3) := by decide +kernel
theorem dX13_readLine_4 : decode cX13_readLine 4 = .ok (.ifCond .ne 10, 3) := by decide +kernel
theorem dX13_readLine_7 : decode cX13_readLine 7 = .ok (.aload_n 0, 1) := by decide +kernel
theorem dX13_readLine_8 : decode cX13_readLine 8 = .ok (.getfield 93, 3) := by decide +kernel
theorem dX13_readLine_11 : decode cX13_readLine 11 = .ok (.goto 4, 3) := by decide +kernel
theorem dX13_readLine_14 : decode cX13_readLine 14 = .ok (.iconst (-1), 1) := by decide +kernel
theorem dX13_readLine_15 : decode cX13_readLine 15 = .ok (.istore_n 1, 1) := by decide +kernel
theorem dX13_readLine_16 : decode cX13_readLine 16 = .ok (.iload_n 1, 1) := by decide +kernel
theorem dX13_readLine_17 : decode cX13_readLine 17 = .ok (.ifCond .ne 10, 3) := by decide +kernel
theorem dX13_readLine_20 : decode cX13_readLine 20 = .ok (.aload_n 0, 1) := by decide +kernel
theorem dX13_readLine_21 : decode cX13_readLine 21 = .ok (.invokevirtual 170, 3) := by decide +kernel
theorem dX13_readLine_24 : decode cX13_readLine 24 = .ok (.goto 94, 3) := by decide +kernel
theorem dX13_readLine_27 : decode cX13_readLine 27 = .ok (.iload_n 1, 1) := by decide +kernel
theorem dX13_readLine_28 : decode cX13_readLine 28 = .ok (.iconst 1, 1) := by decide +kernel
theorem dX13_readLine_29 : decode cX13_readLine 29 = .ok (.if_icmp .ne 10, 3) := by decide +kernel
theorem dX13_readLine_32 : decode cX13_readLine 32 = .ok (.aload_n 0, 1) := by decide +kernel
theorem dX13_readLine_33 : decode cX13_readLine 33 = .ok (.invokevirtual 173, 3) := by decide +kernel
theorem dX13_readLine_36 : decode cX13_readLine 36 = .ok (.goto 82, 3) := by decide +kernel
theorem dX13_readLine_39 : decode cX13_readLine 39 = .ok (.iload_n 1, 1) := by decide +kernel
theorem dX13_readLine_40 : decode cX13_readLine 40 = .ok (.iconst 2, 1) := by decide +kernel
theorem dX13_readLine_41 : decode cX13_readLine 41 = .ok (.if_icmp .ne 10, 3) := by decide +kernel
theorem dX13_readLine_44 : decode cX13_readLine 44 = .ok (.aload_n 0, 1) := by decide +kernel
theorem dX13_readLine_45 : decode cX13_readLine 45 = .ok (.invokevirtual 176, 3) := by decide +kernel
theorem dX13_readLine_48 : decode cX13_readLine 48 = .ok (.goto 70, 3) := by decide +kernel
theorem dX13_readLine_51 : decode cX13_readLine 51 = .ok (.iload_n 1, 1) := by decide +kernel
theorem dX13_readLine_52 : decode cX13_readLine 52 = .ok (.iconst 3, 1) := by decide +kernel
theorem dX13_readLine_53 : decode cX13_readLine 53 = .ok (.if_icmp .ne 10, 3) := by decide +kernel
theorem dX13_readLine_56 : decode cX13_readLine 56 = .ok (.aload_n 0, 1) := by decide +kernel
theorem dX13_readLine_57 : decode cX13_readLine 57 = .ok (.invokevirtual 179, 3) := by decide +kernel
theorem dX13_readLine_60 : decode cX13_readLine 60 = .ok (.goto 58, 3) := by decide +kernel
theorem dX13_readLine_63 : decode cX13_readLine 63 = .ok (.iload_n 1, 1) := by decide +kernel
theorem dX13_readLine_64 : decode cX13_readLine 64 = .ok (.iconst 4, 1) := by decide +kernel
theorem dX13_readLine_65 : decode cX13_readLine 65 = .ok (.if_icmp .ne 10, 3) := by decide +kernel
theorem dX13_readLine_68 : decode cX13_readLine 68 = .ok (.aload_n 0, 1) := by decide +kernel
theorem dX13_readLine_69 : decode cX13_readLine 69 = .ok (.invokevirtual 182, 3) := by decide +kernel
theorem dX13_readLine_72 : decode cX13_readLine 72 = .ok (.goto 46, 3) := by decide +kernel
theorem dX13_readLine_75 : decode cX13_readLine 75 = .ok (.iload_n 1, 1) := by decide +kernel
theorem dX13_readLine_76 : decode cX13_readLine 76 = .ok (.iconst 5, 1) := by decide +kernel
theorem dX13_readLine_77 : decode cX13_readLine 77 = .ok (.if_icmp .ne 10, 3) := by decide +kernel
theorem dX13_readLine_80 : decode cX13_readLine 80 = .ok (.aload_n 0, 1) := by decide +kernel
theorem dX13_readLine_81 : decode cX13_readLine 81 = .ok (.invokevirtual 185, 3) := by decide +kernel
theorem dX13_readLine_84 : decode cX13_readLine 84 = .ok (.goto 34, 3) := by decide +kernel
theorem dX13_readLine_87 : decode cX13_readLine 87 = .ok (.iload_n 1, 1) := by decide +kernel
theorem dX13_readLine_88 : decode cX13_readLine 88 = .ok (.bipush 6, 2) := by decide +kernel
theorem dX13_readLine_90 : decode cX13_readLine 90 = .ok (.if_icmp .ne 10, 3) := by decide +kernel
theorem dX13_readLine_93 : decode cX13_readLine 93 = .ok (.aload_n 0, 1) := by decide +kernel
theorem dX13_readLine_94 : decode cX13_readLine 94 = .ok (.invokevirtual 188, 3) := by decide +kernel
theorem dX13_readLine_97 : decode cX13_readLine 97 = .ok (.goto 21, 3) := by decide +kernel
theorem dX13_readLine_100 : decode cX13_readLine 100 = .ok (.iload_n 1, 1) := by decide +kernel
theorem dX13_readLine_101 : decode cX13_readLine 101 = .ok (.bipush 7, 2) := by decide +kernel
theorem dX13_readLine_103 : decode cX13_readLine 103 = .ok (.if_icmp .ne 10, 3) := by decide +kernel
theorem dX13_readLine_106 : decode cX13_readLine 106 = .ok (.aload_n 0, 1) := by decide +kernel
theorem dX13_readLine_107 : decode cX13_readLine 107 = .ok (.invokevirtual 191, 3) := by decide +kernel
theorem dX13_readLine_110 : decode cX13_readLine 110 = .ok (.goto 8, 3) := by decide +kernel
theorem dX13_readLine_113 : decode cX13_readLine 113 = .ok (.aload_n 0, 1) := by decide +kernel
theorem dX13_readLine_114 : decode cX13_readLine 114 = .ok (.iconst 1, 1) := by decide +kernel
theorem dX13_readLine_115 : decode cX13_readLine 115 = .ok (.invokevirtual 120, 3) := by decide +kernel
theorem dX13_readLine_118 : decode cX13_readLine 118 = .ok (.aload_n 0, 1) := by decide +kernel
theorem dX13_readLine_119 : decode cX13_readLine 119 = .ok (.getfield 111, 3) := by decide +kernel
theorem dX13_readLine_122 : decode cX13_readLine 122 = .ok (.ifCond .ne 16, 3) := by decide +kernel
theorem dX13_readLine_125 : decode cX13_readLine 125 = .ok (.aload_n 0, 1) := by decide +kernel
theorem dX13_readLine_126 : decode cX13_readLine 126 = .ok (.getfield 80, 3) := by decide +kernel
theorem dX13_readLine_129 : decode cX13_readLine 129 = .ok (.iconst 2, 1) := by decide +kernel
theorem dX13_readLine_130 : decode cX13_readLine 130 = .ok (.if_icmp .eq 8, 3) := by decide +kernel
theorem dX13_readLine_133 : decode cX13_readLine 133 = .ok (.aload_n 0, 1) := by decide +kernel
theorem dX13_readLine_134 : decode cX13_readLine 134 = .ok (.iconst 1, 1) := by decide +kernel
theorem dX13_readLine_135 : decode cX13_readLine 135 = .ok (.invokevirtual 120, 3) := by decide +kernel
theorem dX13_readLine_138 : decode cX13_readLine 138 = .ok (.aload_n 0, 1) := by decide +kernel
theorem dX13_readLine_139 : decode cX13_readLine 139 = .ok (.invokevirtual 128, 3) := by decide +kernel
theorem dX13_readLine_142 : decode cX13_readLine 142 = .ok (.aload_n 0, 1) := by decide +kernel
theorem dX13_readLine_143 : decode cX13_readLine 143 = .ok (.getfield 16, 3) := by decide +kernel
theorem dX13_readLine_146 : decode cX13_readLine 146 = .ok (.iconst 3, 1) := by decide +kernel
theorem dX13_readLine_147 : decode cX13_readLine 147 = .ok (.dup2, 1) := by decide +kernel
theorem dX13_readLine_148 : decode cX13_readLine 148 = .ok (.iaload, 1) := by decide +kernel
theorem dX13_readLine_149 : decode cX13_readLine 149 = .ok (.iconst 1, 1) := by decide +kernel
theorem dX13_readLine_150 : decode cX13_readLine 150 = .ok (.iadd, 1) := by decide +kernel
theorem dX13_readLine_151 : decode cX13_readLine 151 = .ok (.iastore, 1) := by decide +kernel
theorem dX13_readLine_152 : decode cX13_readLine 152 = .ok (.return_, 1) := by decide +kernel
theorem dX13_begins_0 : decode cX13_begins 0 = .ok (.iconst 0, 1) := by decide +kernel
theorem dX13_begins_1 : decode cX13_begins 1 = .ok (.istore_n 1, 1) := by decide +kernel
theorem dX13_begins_2 : decode cX13_begins 2 = .ok (.iload_n 1, 1) := by decide +kernel
theorem dX13_begins_3 : decode cX13_begins 3 = .ok (.sipush 502, 3) := by decide +kernel
theorem dX13_begins_6 : decode cX13_begins 6 = .ok (.if_icmp .ge 16, 3) := by decide +kernel
theorem dX13_begins_9 : decode cX13_begins 9 = .ok (.aload_n 0, 1) := by decide +kernel
theorem dX13_begins_10 : decode cX13_begins 10 = .ok (.getfield 16, 3) := by decide +kernel
theorem dX13_begins_13 : decode cX13_begins 13 = .ok (.iload_n 1, 1) := by decide +kernel
theorem dX13_begins_14 : decode cX13_begins 14 = .ok (.iconst 0, 1) := by decide +kernel
theorem dX13_begins_15 : decode cX13_begins 15 = .ok (.iastore, 1) := by decide +kernel
theorem dX13_begins_16 : decode cX13_begins 16 = .ok (.iinc 1 1, 3) := by decide +kernel
theorem dX13_begins_19 : decode cX13_begins 19 = .ok (.goto (-17), 3) := by decide +kernel
theorem dX13_begins_22 : decode cX13_begins 22 = .ok (.iconst 0, 1) := by decide +kernel
theorem dX13_begins_23 : decode cX13_begins 23 = .ok (.istore_n 1, 1) := by decide +kernel
theorem dX13_begins_24 : decode cX13_begins 24 = .ok (.iload_n 1, 1) := by decide +kernel
theorem dX13_begins_25 : decode cX13_begins 25 = .ok (.bipush 65, 2) := by decide +kernel
theorem dX13_begins_27 : decode cX13_begins 27 = .ok (.if_icmp .ge 27, 3) := by decide +kernel
theorem dX13_begins_30 : decode cX13_begins 30 = .ok (.aload_n 0, 1) := by decide +kernel
theorem dX13_begins_31 : decode cX13_begins 31 = .ok (.getfield 28, 3) := by decide +kernel
theorem dX13_begins_34 : decode cX13_begins 34 = .ok (.iload_n 1, 1) := by decide +kernel
theorem dX13_begins_35 : decode cX13_begins 35 = .ok (.iload_n 1, 1) := by decide +kernel
theorem dX13_begins_36 : decode cX13_begins 36 = .ok (.bipush 10, 2) := by decide +kernel
theorem dX13_begins_38 : decode cX13_begins 38 = .ok (.if_icmp .ge 8, 3) := by decide +kernel
theorem dX13_begins_41 : decode cX13_begins 41 = .ok (.bipush (-2), 2) := by decide +kernel
theorem dX13_begins_43 : decode cX13_begins 43 = .ok (.goto 4, 3) := by decide +kernel
theorem dX13_begins_46 : decode cX13_begins 46 = .ok (.iconst 0, 1) := by decide +kernel
theorem dX13_begins_47 : decode cX13_begins 47 = .ok (.iastore, 1) := by decide +kernel
theorem dX13_begins_48 : decode cX13_begins 48 = .ok (.iinc 1 1, 3) := by decide +kernel
theorem dX13_begins_51 : decode cX13_begins 51 = .ok (.goto (-27), 3) := by decide +kernel
theorem dX13_begins_54 : decode cX13_begins 54 = .ok (.aload_n 0, 1) := by decide +kernel
theorem dX13_begins_55 : decode cX13_begins 55 = .ok (.getfield 16, 3) := by decide +kernel
theorem dX13_begins_58 : decode cX13_begins 58 = .ok (.iconst 4, 1) := by decide +kernel
theorem dX13_begins_59 : decode cX13_begins 59 = .ok (.iconst 2, 1) := by decide +kernel
theorem dX13_begins_60 : decode cX13_begins 60 = .ok (.iastore, 1) := by decide +kernel
theorem dX13_begins_61 : decode cX13_begins 61 = .ok (.aload_n 0, 1) := by decide +kernel
theorem dX13_begins_62 : decode cX13_begins 62 = .ok (.getfield 16, 3) := by decide +kernel
theorem dX13_begins_65 : decode cX13_begins 65 = .ok (.bipush 9, 2) := by decide +kernel
theorem dX13_begins_67 : decode cX13_begins 67 = .ok (.iconst 2, 1) := by decide +kernel
theorem dX13_begins_68 : decode cX13_begins 68 = .ok (.iastore, 1) := by decide +kernel
theorem dX13_begins_69 : decode cX13_begins 69 = .ok (.aload_n 0, 1) := by decide +kernel
theorem dX13_begins_70 : decode cX13_begins 70 = .ok (.getfield 41, 3) := by decide +kernel
theorem dX13_begins_73 : decode cX13_begins 73 = .ok (.iconst 0, 1) := by decide +kernel
theorem dX13_begins_74 : decode cX13_begins 74 = .ok (.iconst 0, 1) := by decide +kernel
theorem dX13_begins_75 : decode cX13_begins 75 = .ok (.bastore, 1) := by decide +kernel
theorem dX13_begins_76 : decode cX13_begins 76 = .ok (.aload_n 0, 1) := by decide +kernel
theorem dX13_begins_77 : decode cX13_begins 77 = .ok (.getfield 41, 3) := by decide +kernel
theorem dX13_begins_80 : decode cX13_begins 80 = .ok (.iconst 1, 1) := by decide +kernel
theorem dX13_begins_81 : decode cX13_begins 81 = .ok (.iconst 0, 1) := by decide +kernel
theorem dX13_begins_82 : decode cX13_begins 82 = .ok (.bastore, 1) := by decide +kernel
theorem dX13_begins_83 : decode cX13_begins 83 = .ok (.return_, 1) := by decide +kernel
theorem dX13_becomes_0 : decode cX13_becomes 0 = .ok (.iconst 0, 1) := by decide +kernel
theorem dX13_becomes_1 : decode cX13_becomes 1 = .ok (.istore_n 1, 1) := by decide +kernel
theorem dX13_becomes_2 : decode cX13_becomes 2 = .ok (.iload_n 1, 1) := by decide +kernel
theorem dX13_becomes_3 : decode cX13_becomes 3 = .ok (.sipush 502, 3) := by decide +kernel
theorem dX13_becomes_6 : decode cX13_becomes 6 = .ok (.if_icmp .ge 21, 3) := by decide +kernel
theorem dX13_becomes_9 : decode cX13_becomes 9 = .ok (.aload_n 0, 1) := by decide +kernel
theorem dX13_becomes_10 : decode cX13_becomes 10 = .ok (.getfield 13, 3) := by decide +kernel
theorem dX13_becomes_13 : decode cX13_becomes 13 = .ok (.iload_n 1, 1) := by decide +kernel
theorem dX13_becomes_14 : decode cX13_becomes 14 = .ok (.aload_n 0, 1) := by decide +kernel
theorem dX13_becomes_15 : decode cX13_becomes 15 = .ok (.getfield 16, 3) := by decide +kernel
theorem dX13_becomes_18 : decode cX13_becomes 18 = .ok (.iload_n 1, 1) := by decide +kernel
theorem dX13_becomes_19 : decode cX13_becomes 19 = .ok (.iaload, 1) := by decide +kernel
theorem dX13_becomes_20 : decode cX13_becomes 20 = .ok (.iastore, 1) := by decide +kernel
theorem dX13_becomes_21 : decode cX13_becomes 21 = .ok (.iinc 1 1, 3) := by decide +kernel
theorem dX13_becomes_24 : decode cX13_becomes 24 = .ok (.goto (-22), 3) := by decide +kernel
theorem dX13_becomes_27 : decode cX13_becomes 27 = .ok (.iconst 0, 1) := by decide +kernel
theorem dX13_becomes_28 : decode cX13_becomes 28 = .ok (.istore_n 1, 1) := by decide +kernel
theorem dX13_becomes_29 : decode cX13_becomes 29 = .ok (.iload_n 1, 1) := by decide +kernel
theorem dX13_becomes_30 : decode cX13_becomes 30 = .ok (.bipush 65, 2) := by decide +kernel
theorem dX13_becomes_32 : decode cX13_becomes 32 = .ok (.if_icmp .ge 21, 3) := by decide +kernel
theorem dX13_becomes_35 : decode cX13_becomes 35 = .ok (.aload_n 0, 1) := by decide +kernel
theorem dX13_becomes_36 : decode cX13_becomes 36 = .ok (.getfield 25, 3) := by decide +kernel
theorem dX13_becomes_39 : decode cX13_becomes 39 = .ok (.iload_n 1, 1) := by decide +kernel
theorem dX13_becomes_40 : decode cX13_becomes 40 = .ok (.aload_n 0, 1) := by decide +kernel
theorem dX13_becomes_41 : decode cX13_becomes 41 = .ok (.getfield 28, 3) := by decide +kernel
theorem dX13_becomes_44 : decode cX13_becomes 44 = .ok (.iload_n 1, 1) := by decide +kernel
theorem dX13_becomes_45 : decode cX13_becomes 45 = .ok (.iaload, 1) := by decide +kernel
theorem dX13_becomes_46 : decode cX13_becomes 46 = .ok (.iastore, 1) := by decide +kernel
theorem dX13_becomes_47 : decode cX13_becomes 47 = .ok (.iinc 1 1, 3) := by decide +kernel
theorem dX13_becomes_50 : decode cX13_becomes 50 = .ok (.goto (-21), 3) := by decide +kernel
theorem dX13_becomes_53 : decode cX13_becomes 53 = .ok (.iconst 0, 1) := by decide +kernel
theorem dX13_becomes_54 : decode cX13_becomes 54 = .ok (.istore_n 1, 1) := by decide +kernel
theorem dX13_becomes_55 : decode cX13_becomes 55 = .ok (.iload_n 1, 1) := by decide +kernel
theorem dX13_becomes_56 : decode cX13_becomes 56 = .ok (.bipush 12, 2) := by decide +kernel
theorem dX13_becomes_58 : decode cX13_becomes 58 = .ok (.if_icmp .ge 21, 3) := by decide +kernel
theorem dX13_becomes_61 : decode cX13_becomes 61 = .ok (.aload_n 0, 1) := by decide +kernel
theorem dX13_becomes_62 : decode cX13_becomes 62 = .ok (.getfield 19, 3) := by decide +kernel
theorem dX13_becomes_65 : decode cX13_becomes 65 = .ok (.iload_n 1, 1) := by decide +kernel
theorem dX13_becomes_66 : decode cX13_becomes 66 = .ok (.aload_n 0, 1) := by decide +kernel
theorem dX13_becomes_67 : decode cX13_becomes 67 = .ok (.getfield 22, 3) := by decide +kernel
theorem dX13_becomes_70 : decode cX13_becomes 70 = .ok (.iload_n 1, 1) := by decide +kernel
theorem dX13_becomes_71 : decode cX13_becomes 71 = .ok (.iaload, 1) := by decide +kernel
theorem dX13_becomes_72 : decode cX13_becomes 72 = .ok (.iastore, 1) := by decide +kernel
theorem dX13_becomes_73 : decode cX13_becomes 73 = .ok (.iinc 1 1, 3) := by decide +kernel
theorem dX13_becomes_76 : decode cX13_becomes 76 = .ok (.goto (-21), 3) := by decide +kernel
theorem dX13_becomes_79 : decode cX13_becomes 79 = .ok (.aload_n 0, 1) := by decide +kernel
theorem dX13_becomes_80 : decode cX13_becomes 80 = .ok (.iconst 0, 1) := by decide +kernel
theorem dX13_becomes_81 : decode cX13_becomes 81 = .ok (.putfield 194, 3) := by decide +kernel
theorem dX13_becomes_84 : decode cX13_becomes 84 = .ok (.return_, 1) := by decide +kernel
theorem dX13_text_0 : decode cX13_text 0 = .ok (.aload_n 0, 1) := by decide +kernel
theorem dX13_text_1 : decode cX13_text 1 = .ok (.iconst 0, 1) := by decide +kernel
theorem dX13_text_2 : decode cX13_text 2 = .ok (.putfield 61, 3) := by decide +kernel
theorem dX13_text_5 : decode cX13_text 5 = .ok (.iload_n 1, 1) := by decide +kernel
theorem dX13_text_6 : decode cX13_text 6 = .ok (.ifCond .lt 11, 3) := by decide +kernel
theorem dX13_text_9 : decode cX13_text 9 = .ok (.iload_n 1, 1) := by decide +kernel
theorem dX13_text_10 : decode cX13_text 10 = .ok (.aload_n 0, 1) := by decide +kernel
theorem dX13_text_11 : decode cX13_text 11 = .ok (.getfield 64, 3) := by decide +kernel
theorem dX13_text_14 : decode cX13_text 14 = .ok (.if_icmp .le 6, 3) := by decide +kernel
theorem dX13_text_17 : decode cX13_text 17 = .ok (.bipush (-2), 2) := by decide +kernel
theorem dX13_text_19 : decode cX13_text 19 = .ok (.ireturn, 1) := by decide +kernel
theorem dX13_text_20 : decode cX13_text 20 = .ok (.aload_n 0, 1) := by decide +kernel
theorem dX13_text_21 : decode cX13_text 21 = .ok (.invokevirtual 55, 3) := by decide +kernel
theorem dX13_text_24 : decode cX13_text 24 = .ok (.aload_n 0, 1) := by decide +kernel
theorem dX13_text_25 : decode cX13_text 25 = .ok (.iload_n 1, 1) := by decide +kernel
theorem dX13_text_26 : decode cX13_text 26 = .ok (.putfield 70, 3) := by decide +kernel
theorem dX13_text_29 : decode cX13_text 29 = .ok (.aload_n 0, 1) := by decide +kernel
theorem dX13_text_30 : decode cX13_text 30 = .ok (.iconst 0, 1) := by decide +kernel
theorem dX13_text_31 : decode cX13_text 31 = .ok (.putfield 67, 3) := by decide +kernel
theorem dX13_text_34 : decode cX13_text 34 = .ok (.aload_n 0, 1) := by decide +kernel
theorem dX13_text_35 : decode cX13_text 35 = .ok (.iconst 0, 1) := by decide +kernel
theorem dX13_text_36 : decode cX13_text 36 = .ok (.putfield 111, 3) := by decide +kernel
theorem dX13_text_39 : decode cX13_text 39 = .ok (.aload_n 0, 1) := by decide +kernel
theorem dX13_text_40 : decode cX13_text 40 = .ok (.invokevirtual 117, 3) := by decide +kernel
theorem dX13_text_43 : decode cX13_text 43 = .ok (.aload_n 0, 1) := by decide +kernel
theorem dX13_text_44 : decode cX13_text 44 = .ok (.getfield 111, 3) := by decide +kernel
theorem dX13_text_47 : decode cX13_text 47 = .ok (.ifCond .ne 18, 3) := by decide +kernel
theorem dX13_text_50 : decode cX13_text 50 = .ok (.aload_n 0, 1) := by decide +kernel
theorem dX13_text_51 : decode cX13_text 51 = .ok (.getfield 80, 3) := by decide +kernel
theorem dX13_text_54 : decode cX13_text 54 = .ok (.iconst 3, 1) := by decide +kernel
theorem dX13_text_55 : decode cX13_text 55 = .ok (.if_icmp .eq 10, 3) := by decide +kernel
theorem dX13_text_58 : decode cX13_text 58 = .ok (.aload_n 0, 1) := by decide +kernel
theorem dX13_text_59 : decode cX13_text 59 = .ok (.invokevirtual 197, 3) := by decide +kernel
theorem dX13_text_62 : decode cX13_text 62 = .ok (.goto (-19), 3) := by decide +kernel
theorem dX13_text_65 : decode cX13_text 65 = .ok (.aload_n 0, 1) := by decide +kernel
theorem dX13_text_66 : decode cX13_text 66 = .ok (.iconst 0, 1) := by decide +kernel
theorem dX13_text_67 : decode cX13_text 67 = .ok (.putfield 64, 3) := by decide +kernel
theorem dX13_text_70 : decode cX13_text 70 = .ok (.aload_n 0, 1) := by decide +kernel
theorem dX13_text_71 : decode cX13_text 71 = .ok (.aload_n 0, 1) := by decide +kernel
theorem dX13_text_72 : decode cX13_text 72 = .ok (.getfield 111, 3) := by decide +kernel
theorem dX13_text_75 : decode cX13_text 75 = .ok (.putfield 200, 3) := by decide +kernel
theorem dX13_text_78 : decode cX13_text 78 = .ok (.aload_n 0, 1) := by decide +kernel
theorem dX13_text_79 : decode cX13_text 79 = .ok (.aload_n 0, 1) := by decide +kernel
theorem dX13_text_80 : decode cX13_text 80 = .ok (.getfield 111, 3) := by decide +kernel
theorem dX13_text_83 : decode cX13_text 83 = .ok (.ifCond .ne 7, 3) := by decide +kernel
theorem dX13_text_86 : decode cX13_text 86 = .ok (.iconst (-1), 1) := by decide +kernel
theorem dX13_text_87 : decode cX13_text 87 = .ok (.goto 7, 3) := by decide +kernel
theorem dX13_text_90 : decode cX13_text 90 = .ok (.aload_n 0, 1) := by decide +kernel
theorem dX13_text_91 : decode cX13_text 91 = .ok (.getfield 114, 3) := by decide +kernel
theorem dX13_text_94 : decode cX13_text 94 = .ok (.putfield 37, 3) := by decide +kernel
theorem dX13_text_97 : decode cX13_text 97 = .ok (.aload_n 0, 1) := by decide +kernel
theorem dX13_text_98 : decode cX13_text 98 = .ok (.getfield 111, 3) := by decide +kernel
theorem dX13_text_101 : decode cX13_text 101 = .ok (.ifCond .eq 5, 3) := by decide +kernel
theorem dX13_text_104 : decode cX13_text 104 = .ok (.iconst (-1), 1) := by decide +kernel
theorem dX13_text_105 : decode cX13_text 105 = .ok (.ireturn, 1) := by decide +kernel
theorem dX13_text_106 : decode cX13_text 106 = .ok (.aload_n 0, 1) := by decide +kernel
theorem dX13_text_107 : decode cX13_text 107 = .ok (.invokevirtual 58, 3) := by decide +kernel
theorem dX13_text_110 : decode cX13_text 110 = .ok (.aload_n 0, 1) := by decide +kernel
theorem dX13_text_111 : decode cX13_text 111 = .ok (.getfield 13, 3) := by decide +kernel
theorem dX13_text_114 : decode cX13_text 114 = .ok (.iconst 3, 1) := by decide +kernel
theorem dX13_text_115 : decode cX13_text 115 = .ok (.iaload, 1) := by decide +kernel
theorem dX13_text_116 : decode cX13_text 116 = .ok (.ireturn, 1) := by decide +kernel
theorem dX13_fault_0 : decode cX13_fault 0 = .ok (.aload_n 0, 1) := by decide +kernel
theorem dX13_fault_1 : decode cX13_fault 1 = .ok (.iconst 0, 1) := by decide +kernel
theorem dX13_fault_2 : decode cX13_fault 2 = .ok (.putfield 61, 3) := by decide +kernel
theorem dX13_fault_5 : decode cX13_fault 5 = .ok (.iload_n 1, 1) := by decide +kernel
theorem dX13_fault_6 : decode cX13_fault 6 = .ok (.ifCond .ne 10, 3) := by decide +kernel
theorem dX13_fault_9 : decode cX13_fault 9 = .ok (.aload_n 0, 1) := by decide +kernel
theorem dX13_fault_10 : decode cX13_fault 10 = .ok (.getfield 200, 3) := by decide +kernel
theorem dX13_fault_13 : decode cX13_fault 13 = .ok (.goto 16, 3) := by decide +kernel
theorem dX13_fault_16 : decode cX13_fault 16 = .ok (.iload_n 1, 1) := by decide +kernel
theorem dX13_fault_17 : decode cX13_fault 17 = .ok (.iconst 1, 1) := by decide +kernel
theorem dX13_fault_18 : decode cX13_fault 18 = .ok (.if_icmp .ne 10, 3) := by decide +kernel
theorem dX13_fault_21 : decode cX13_fault 21 = .ok (.aload_n 0, 1) := by decide +kernel
theorem dX13_fault_22 : decode cX13_fault 22 = .ok (.getfield 37, 3) := by decide +kernel
theorem dX13_fault_25 : decode cX13_fault 25 = .ok (.goto 4, 3) := by decide +kernel
theorem dX13_fault_28 : decode cX13_fault 28 = .ok (.iconst (-1), 1) := by decide +kernel
theorem dX13_fault_29 : decode cX13_fault 29 = .ok (.ireturn, 1) := by decide +kernel
theorem dX13_isPerson_0 : decode cX13_isPerson 0 = .ok (.iload_n 1, 1) := by decide +kernel
theorem dX13_isPerson_1 : decode cX13_isPerson 1 = .ok (.ifCond .lt 17, 3) := by decide +kernel
theorem dX13_isPerson_4 : decode cX13_isPerson 4 = .ok (.iload_n 1, 1) := by decide +kernel
theorem dX13_isPerson_5 : decode cX13_isPerson 5 = .ok (.aload_n 0, 1) := by decide +kernel
theorem dX13_isPerson_6 : decode cX13_isPerson 6 = .ok (.getfield 13, 3) := by decide +kernel
theorem dX13_isPerson_9 : decode cX13_isPerson 9 = .ok (.iconst 0, 1) := by decide +kernel
theorem dX13_isPerson_10 : decode cX13_isPerson 10 = .ok (.iaload, 1) := by decide +kernel
theorem dX13_isPerson_11 : decode cX13_isPerson 11 = .ok (.if_icmp .ge 7, 3) := by decide +kernel
theorem dX13_isPerson_14 : decode cX13_isPerson 14 = .ok (.iconst 1, 1) := by decide +kernel
theorem dX13_isPerson_15 : decode cX13_isPerson 15 = .ok (.goto 4, 3) := by decide +kernel
theorem dX13_isPerson_18 : decode cX13_isPerson 18 = .ok (.iconst 0, 1) := by decide +kernel
theorem dX13_isPerson_19 : decode cX13_isPerson 19 = .ok (.ireturn, 1) := by decide +kernel
theorem dX13_isPaper_0 : decode cX13_isPaper 0 = .ok (.iload_n 1, 1) := by decide +kernel
theorem dX13_isPaper_1 : decode cX13_isPaper 1 = .ok (.ifCond .lt 17, 3) := by decide +kernel
theorem dX13_isPaper_4 : decode cX13_isPaper 4 = .ok (.iload_n 1, 1) := by decide +kernel
theorem dX13_isPaper_5 : decode cX13_isPaper 5 = .ok (.aload_n 0, 1) := by decide +kernel
theorem dX13_isPaper_6 : decode cX13_isPaper 6 = .ok (.getfield 13, 3) := by decide +kernel
theorem dX13_isPaper_9 : decode cX13_isPaper 9 = .ok (.iconst 2, 1) := by decide +kernel
theorem dX13_isPaper_10 : decode cX13_isPaper 10 = .ok (.iaload, 1) := by decide +kernel
theorem dX13_isPaper_11 : decode cX13_isPaper 11 = .ok (.if_icmp .ge 7, 3) := by decide +kernel
theorem dX13_isPaper_14 : decode cX13_isPaper 14 = .ok (.iconst 1, 1) := by decide +kernel
theorem dX13_isPaper_15 : decode cX13_isPaper 15 = .ok (.goto 4, 3) := by decide +kernel
theorem dX13_isPaper_18 : decode cX13_isPaper 18 = .ok (.iconst 0, 1) := by decide +kernel
theorem dX13_isPaper_19 : decode cX13_isPaper 19 = .ok (.ireturn, 1) := by decide +kernel
theorem dX13_isThing_0 : decode cX13_isThing 0 = .ok (.iload_n 1, 1) := by decide +kernel
theorem dX13_isThing_1 : decode cX13_isThing 1 = .ok (.ifCond .lt 17, 3) := by decide +kernel
theorem dX13_isThing_4 : decode cX13_isThing 4 = .ok (.iload_n 1, 1) := by decide +kernel
theorem dX13_isThing_5 : decode cX13_isThing 5 = .ok (.aload_n 0, 1) := by decide +kernel
theorem dX13_isThing_6 : decode cX13_isThing 6 = .ok (.getfield 13, 3) := by decide +kernel
theorem dX13_isThing_9 : decode cX13_isThing 9 = .ok (.iconst 1, 1) := by decide +kernel
theorem dX13_isThing_10 : decode cX13_isThing 10 = .ok (.iaload, 1) := by decide +kernel
theorem dX13_isThing_11 : decode cX13_isThing 11 = .ok (.if_icmp .ge 7, 3) := by decide +kernel
theorem dX13_isThing_14 : decode cX13_isThing 14 = .ok (.iconst 1, 1) := by decide +kernel
theorem dX13_isThing_15 : decode cX13_isThing 15 = .ok (.goto 4, 3) := by decide +kernel
theorem dX13_isThing_18 : decode cX13_isThing 18 = .ok (.iconst 0, 1) := by decide +kernel
theorem dX13_isThing_19 : decode cX13_isThing 19 = .ok (.ireturn, 1) := by decide +kernel
theorem dX13_isDay_0 : decode cX13_isDay 0 = .ok (.iload_n 0, 1) := by decide +kernel
theorem dX13_isDay_1 : decode cX13_isDay 1 = .ok (.ifCond .lt 14, 3) := by decide +kernel
theorem dX13_isDay_4 : decode cX13_isDay 4 = .ok (.iload_n 0, 1) := by decide +kernel
theorem dX13_isDay_5 : decode cX13_isDay 5 = .ok (.sipush 9999, 3) := by decide +kernel
theorem dX13_isDay_8 : decode cX13_isDay 8 = .ok (.if_icmp .gt 7, 3) := by decide +kernel
theorem dX13_isDay_11 : decode cX13_isDay 11 = .ok (.iconst 1, 1) := by decide +kernel
theorem dX13_isDay_12 : decode cX13_isDay 12 = .ok (.goto 4, 3) := by decide +kernel
theorem dX13_isDay_15 : decode cX13_isDay 15 = .ok (.iconst 0, 1) := by decide +kernel
theorem dX13_isDay_16 : decode cX13_isDay 16 = .ok (.ireturn, 1) := by decide +kernel
theorem dX13_of_0 : decode cX13_of 0 = .ok (.aload_n 0, 1) := by decide +kernel
theorem dX13_of_1 : decode cX13_of 1 = .ok (.getfield 13, 3) := by decide +kernel
theorem dX13_of_4 : decode cX13_of 4 = .ok (.bipush 58, 2) := by decide +kernel
theorem dX13_of_6 : decode cX13_of 6 = .ok (.bipush 7, 2) := by decide +kernel
theorem dX13_of_8 : decode cX13_of 8 = .ok (.iload_n 1, 1) := by decide +kernel
theorem dX13_of_9 : decode cX13_of 9 = .ok (.imul, 1) := by decide +kernel
theorem dX13_of_10 : decode cX13_of 10 = .ok (.iadd, 1) := by decide +kernel
theorem dX13_of_11 : decode cX13_of 11 = .ok (.iload_n 2, 1) := by decide +kernel
theorem dX13_of_12 : decode cX13_of 12 = .ok (.iadd, 1) := by decide +kernel
theorem dX13_of_13 : decode cX13_of 13 = .ok (.iaload, 1) := by decide +kernel
theorem dX13_of_14 : decode cX13_of 14 = .ok (.ireturn, 1) := by decide +kernel
theorem dX13_landOf_0 : decode cX13_landOf 0 = .ok (.aload_n 0, 1) := by decide +kernel
theorem dX13_landOf_1 : decode cX13_landOf 1 = .ok (.getfield 13, 3) := by decide +kernel
theorem dX13_landOf_4 : decode cX13_landOf 4 = .ok (.bipush 34, 2) := by decide +kernel
theorem dX13_landOf_6 : decode cX13_landOf 6 = .ok (.iconst 3, 1) := by decide +kernel
theorem dX13_landOf_7 : decode cX13_landOf 7 = .ok (.iload_n 1, 1) := by decide +kernel
theorem dX13_landOf_8 : decode cX13_landOf 8 = .ok (.imul, 1) := by decide +kernel
theorem dX13_landOf_9 : decode cX13_landOf 9 = .ok (.iadd, 1) := by decide +kernel
theorem dX13_landOf_10 : decode cX13_landOf 10 = .ok (.iconst 1, 1) := by decide +kernel
theorem dX13_landOf_11 : decode cX13_landOf 11 = .ok (.iadd, 1) := by decide +kernel
theorem dX13_landOf_12 : decode cX13_landOf 12 = .ok (.iaload, 1) := by decide +kernel
theorem dX13_landOf_13 : decode cX13_landOf 13 = .ok (.ireturn, 1) := by decide +kernel
theorem dX13_has_0 : decode cX13_has 0 = .ok (.aload_n 0, 1) := by decide +kernel
theorem dX13_has_1 : decode cX13_has 1 = .ok (.getfield 13, 3) := by decide +kernel
theorem dX13_has_4 : decode cX13_has 4 = .ok (.iconst 4, 1) := by decide +kernel
theorem dX13_has_5 : decode cX13_has 5 = .ok (.iconst 5, 1) := by decide +kernel
theorem dX13_has_6 : decode cX13_has 6 = .ok (.iload_n 1, 1) := by decide +kernel
theorem dX13_has_7 : decode cX13_has 7 = .ok (.imul, 1) := by decide +kernel
theorem dX13_has_8 : decode cX13_has 8 = .ok (.iadd, 1) := by decide +kernel
theorem dX13_has_9 : decode cX13_has 9 = .ok (.iload_n 2, 1) := by decide +kernel
theorem dX13_has_10 : decode cX13_has 10 = .ok (.iadd, 1) := by decide +kernel
theorem dX13_has_11 : decode cX13_has 11 = .ok (.iaload, 1) := by decide +kernel
theorem dX13_has_12 : decode cX13_has 12 = .ok (.iconst 1, 1) := by decide +kernel
theorem dX13_has_13 : decode cX13_has 13 = .ok (.if_icmp .ne 7, 3) := by decide +kernel
theorem dX13_has_16 : decode cX13_has 16 = .ok (.iconst 1, 1) := by decide +kernel
theorem dX13_has_17 : decode cX13_has 17 = .ok (.goto 4, 3) := by decide +kernel
theorem dX13_has_20 : decode cX13_has 20 = .ok (.iconst 0, 1) := by decide +kernel
theorem dX13_has_21 : decode cX13_has 21 = .ok (.ireturn, 1) := by decide +kernel
theorem dX13_diesOn_0 : decode cX13_diesOn 0 = .ok (.aload_n 0, 1) := by decide +kernel
theorem dX13_diesOn_1 : decode cX13_diesOn 1 = .ok (.getfield 25, 3) := by decide +kernel
theorem dX13_diesOn_4 : decode cX13_diesOn 4 = .ok (.iconst 0, 1) := by decide +kernel
theorem dX13_diesOn_5 : decode cX13_diesOn 5 = .ok (.iload_n 1, 1) := by decide +kernel
theorem dX13_diesOn_6 : decode cX13_diesOn 6 = .ok (.iadd, 1) := by decide +kernel
theorem dX13_diesOn_7 : decode cX13_diesOn 7 = .ok (.iaload, 1) := by decide +kernel
theorem dX13_diesOn_8 : decode cX13_diesOn 8 = .ok (.ireturn, 1) := by decide +kernel
theorem dX13_lives_0 : decode cX13_lives 0 = .ok (.aload_n 0, 1) := by decide +kernel
theorem dX13_lives_1 : decode cX13_lives 1 = .ok (.iload_n 1, 1) := by decide +kernel
theorem dX13_lives_2 : decode cX13_lives 2 = .ok (.invokevirtual 203, 3) := by decide +kernel
theorem dX13_lives_5 : decode cX13_lives 5 = .ok (.bipush (-2), 2) := by decide +kernel
theorem dX13_lives_7 : decode cX13_lives 7 = .ok (.if_icmp .eq 12, 3) := by decide +kernel
theorem dX13_lives_10 : decode cX13_lives 10 = .ok (.aload_n 0, 1) := by decide +kernel
theorem dX13_lives_11 : decode cX13_lives 11 = .ok (.iload_n 1, 1) := by decide +kernel
theorem dX13_lives_12 : decode cX13_lives 12 = .ok (.invokevirtual 203, 3) := by decide +kernel
theorem dX13_lives_15 : decode cX13_lives 15 = .ok (.iload_n 2, 1) := by decide +kernel
theorem dX13_lives_16 : decode cX13_lives 16 = .ok (.if_icmp .le 7, 3) := by decide +kernel
theorem dX13_lives_19 : decode cX13_lives 19 = .ok (.iconst 1, 1) := by decide +kernel
theorem dX13_lives_20 : decode cX13_lives 20 = .ok (.goto 4, 3) := by decide +kernel
theorem dX13_lives_23 : decode cX13_lives 23 = .ok (.iconst 0, 1) := by decide +kernel
theorem dX13_lives_24 : decode cX13_lives 24 = .ok (.ireturn, 1) := by decide +kernel
theorem dX13_childrenOf_0 : decode cX13_childrenOf 0 = .ok (.iconst 0, 1) := by decide +kernel
theorem dX13_childrenOf_1 : decode cX13_childrenOf 1 = .ok (.istore_n 2, 1) := by decide +kernel
theorem dX13_childrenOf_2 : decode cX13_childrenOf 2 = .ok (.iconst 0, 1) := by decide +kernel
theorem dX13_childrenOf_3 : decode cX13_childrenOf 3 = .ok (.istore_n 3, 1) := by decide +kernel
theorem dX13_childrenOf_4 : decode cX13_childrenOf 4 = .ok (.iload_n 3, 1) := by decide +kernel
theorem dX13_childrenOf_5 : decode cX13_childrenOf 5 = .ok (.aload_n 0, 1) := by decide +kernel
theorem dX13_childrenOf_6 : decode cX13_childrenOf 6 = .ok (.getfield 13, 3) := by decide +kernel
theorem dX13_childrenOf_9 : decode cX13_childrenOf 9 = .ok (.iconst 0, 1) := by decide +kernel
theorem dX13_childrenOf_10 : decode cX13_childrenOf 10 = .ok (.iaload, 1) := by decide +kernel
theorem dX13_childrenOf_11 : decode cX13_childrenOf 11 = .ok (.if_icmp .ge 27, 3) := by decide +kernel
theorem dX13_childrenOf_14 : decode cX13_childrenOf 14 = .ok (.iload_n 2, 1) := by decide +kernel
theorem dX13_childrenOf_15 : decode cX13_childrenOf 15 = .ok (.aload_n 0, 1) := by decide +kernel
theorem dX13_childrenOf_16 : decode cX13_childrenOf 16 = .ok (.getfield 13, 3) := by decide +kernel
theorem dX13_childrenOf_19 : decode cX13_childrenOf 19 = .ok (.bipush 24, 2) := by decide +kernel
theorem dX13_childrenOf_21 : decode cX13_childrenOf 21 = .ok (.iload_n 3, 1) := by decide +kernel
theorem dX13_childrenOf_22 : decode cX13_childrenOf 22 = .ok (.iadd, 1) := by decide +kernel
theorem dX13_childrenOf_23 : decode cX13_childrenOf 23 = .ok (.iaload, 1) := by decide +kernel
theorem dX13_childrenOf_24 : decode cX13_childrenOf 24 = .ok (.iload_n 1, 1) := by decide +kernel
theorem dX13_childrenOf_25 : decode cX13_childrenOf 25 = .ok (.ishr, 1) := by decide +kernel
theorem dX13_childrenOf_26 : decode cX13_childrenOf 26 = .ok (.iconst 1, 1) := by decide +kernel
theorem dX13_childrenOf_27 : decode cX13_childrenOf 27 = .ok (.iand, 1) := by decide +kernel
theorem dX13_childrenOf_28 : decode cX13_childrenOf 28 = .ok (.iload_n 3, 1) := by decide +kernel
theorem dX13_childrenOf_29 : decode cX13_childrenOf 29 = .ok (.ishl, 1) := by decide +kernel
theorem dX13_childrenOf_30 : decode cX13_childrenOf 30 = .ok (.ior, 1) := by decide +kernel
theorem dX13_childrenOf_31 : decode cX13_childrenOf 31 = .ok (.istore_n 2, 1) := by decide +kernel
theorem dX13_childrenOf_32 : decode cX13_childrenOf 32 = .ok (.iinc 3 1, 3) := by decide +kernel
theorem dX13_childrenOf_35 : decode cX13_childrenOf 35 = .ok (.goto (-31), 3) := by decide +kernel
theorem dX13_childrenOf_38 : decode cX13_childrenOf 38 = .ok (.iload_n 2, 1) := by decide +kernel
theorem dX13_childrenOf_39 : decode cX13_childrenOf 39 = .ok (.ireturn, 1) := by decide +kernel
theorem dX13_wedTo_0 : decode cX13_wedTo 0 = .ok (.bipush (-2), 2) := by decide +kernel
theorem dX13_wedTo_2 : decode cX13_wedTo 2 = .ok (.istore_n 3, 1) := by decide +kernel
theorem dX13_wedTo_3 : decode cX13_wedTo 3 = .ok (.iconst (-1), 1) := by decide +kernel
theorem dX13_wedTo_4 : decode cX13_wedTo 4 = .ok (.istore 4, 2) := by decide +kernel
theorem dX13_wedTo_6 : decode cX13_wedTo 6 = .ok (.iconst 0, 1) := by decide +kernel
theorem dX13_wedTo_7 : decode cX13_wedTo 7 = .ok (.istore 5, 2) := by decide +kernel
theorem dX13_wedTo_9 : decode cX13_wedTo 9 = .ok (.iload 5, 2) := by decide +kernel
theorem dX13_wedTo_11 : decode cX13_wedTo 11 = .ok (.aload_n 0, 1) := by decide +kernel
theorem dX13_wedTo_12 : decode cX13_wedTo 12 = .ok (.getfield 25, 3) := by decide +kernel
theorem dX13_wedTo_15 : decode cX13_wedTo 15 = .ok (.bipush 64, 2) := by decide +kernel
theorem dX13_wedTo_17 : decode cX13_wedTo 17 = .ok (.iaload, 1) := by decide +kernel
theorem dX13_wedTo_18 : decode cX13_wedTo 18 = .ok (.if_icmp .ge 126, 3) := by decide +kernel
theorem dX13_wedTo_21 : decode cX13_wedTo 21 = .ok (.bipush 46, 2) := by decide +kernel
theorem dX13_wedTo_23 : decode cX13_wedTo 23 = .ok (.iconst 3, 1) := by decide +kernel
theorem dX13_wedTo_24 : decode cX13_wedTo 24 = .ok (.iload 5, 2) := by decide +kernel
theorem dX13_wedTo_26 : decode cX13_wedTo 26 = .ok (.imul, 1) := by decide +kernel
theorem dX13_wedTo_27 : decode cX13_wedTo 27 = .ok (.iadd, 1) := by decide +kernel
theorem dX13_wedTo_28 : decode cX13_wedTo 28 = .ok (.istore 6, 2) := by decide +kernel
theorem dX13_wedTo_30 : decode cX13_wedTo 30 = .ok (.aload_n 0, 1) := by decide +kernel
theorem dX13_wedTo_31 : decode cX13_wedTo 31 = .ok (.getfield 25, 3) := by decide +kernel
theorem dX13_wedTo_34 : decode cX13_wedTo 34 = .ok (.iload 6, 2) := by decide +kernel
theorem dX13_wedTo_36 : decode cX13_wedTo 36 = .ok (.iaload, 1) := by decide +kernel
theorem dX13_wedTo_37 : decode cX13_wedTo 37 = .ok (.iload_n 1, 1) := by decide +kernel
theorem dX13_wedTo_38 : decode cX13_wedTo 38 = .ok (.if_icmp .eq 16, 3) := by decide +kernel
theorem dX13_wedTo_41 : decode cX13_wedTo 41 = .ok (.aload_n 0, 1) := by decide +kernel
theorem dX13_wedTo_42 : decode cX13_wedTo 42 = .ok (.getfield 25, 3) := by decide +kernel
theorem dX13_wedTo_45 : decode cX13_wedTo 45 = .ok (.iload 6, 2) := by decide +kernel
theorem dX13_wedTo_47 : decode cX13_wedTo 47 = .ok (.iconst 1, 1) := by decide +kernel
theorem dX13_wedTo_48 : decode cX13_wedTo 48 = .ok (.iadd, 1) := by decide +kernel
theorem dX13_wedTo_49 : decode cX13_wedTo 49 = .ok (.iaload, 1) := by decide +kernel
theorem dX13_wedTo_50 : decode cX13_wedTo 50 = .ok (.iload_n 1, 1) := by decide +kernel
theorem dX13_wedTo_51 : decode cX13_wedTo 51 = .ok (.if_icmp .ne 34, 3) := by decide +kernel
theorem dX13_wedTo_54 : decode cX13_wedTo 54 = .ok (.aload_n 0, 1) := by decide +kernel
theorem dX13_wedTo_55 : decode cX13_wedTo 55 = .ok (.getfield 25, 3) := by decide +kernel
theorem dX13_wedTo_58 : decode cX13_wedTo 58 = .ok (.iload 6, 2) := by decide +kernel
theorem dX13_wedTo_60 : decode cX13_wedTo 60 = .ok (.iconst 2, 1) := by decide +kernel
theorem dX13_wedTo_61 : decode cX13_wedTo 61 = .ok (.iadd, 1) := by decide +kernel
theorem dX13_wedTo_62 : decode cX13_wedTo 62 = .ok (.iaload, 1) := by decide +kernel
theorem dX13_wedTo_63 : decode cX13_wedTo 63 = .ok (.iload_n 2, 1) := by decide +kernel
theorem dX13_wedTo_64 : decode cX13_wedTo 64 = .ok (.if_icmp .gt 21, 3) := by decide +kernel
theorem dX13_wedTo_67 : decode cX13_wedTo 67 = .ok (.aload_n 0, 1) := by decide +kernel
theorem dX13_wedTo_68 : decode cX13_wedTo 68 = .ok (.getfield 25, 3) := by decide +kernel
theorem dX13_wedTo_71 : decode cX13_wedTo 71 = .ok (.iload 6, 2) := by decide +kernel
theorem dX13_wedTo_73 : decode cX13_wedTo 73 = .ok (.iconst 2, 1) := by decide +kernel
theorem dX13_wedTo_74 : decode cX13_wedTo 74 = .ok (.iadd, 1) := by decide +kernel
theorem dX13_wedTo_75 : decode cX13_wedTo 75 = .ok (.iaload, 1) := by decide +kernel
theorem dX13_wedTo_76 : decode cX13_wedTo 76 = .ok (.iload 4, 2) := by decide +kernel
theorem dX13_wedTo_78 : decode cX13_wedTo 78 = .ok (.if_icmp .lt 7, 3) := by decide +kernel
theorem dX13_wedTo_81 : decode cX13_wedTo 81 = .ok (.iconst 1, 1) := by decide +kernel
theorem dX13_wedTo_82 : decode cX13_wedTo 82 = .ok (.goto 4, 3) := by decide +kernel
theorem dX13_wedTo_85 : decode cX13_wedTo 85 = .ok (.iconst 0, 1) := by decide +kernel
theorem dX13_wedTo_86 : decode cX13_wedTo 86 = .ok (.istore 7, 2) := by decide +kernel
theorem dX13_wedTo_88 : decode cX13_wedTo 88 = .ok (.iload 7, 2) := by decide +kernel
theorem dX13_wedTo_90 : decode cX13_wedTo 90 = .ok (.ifCond .ne 6, 3) := by decide +kernel
theorem dX13_wedTo_93 : decode cX13_wedTo 93 = .ok (.goto 45, 3) := by decide +kernel
theorem dX13_wedTo_96 : decode cX13_wedTo 96 = .ok (.aload_n 0, 1) := by decide +kernel
theorem dX13_wedTo_97 : decode cX13_wedTo 97 = .ok (.getfield 25, 3) := by decide +kernel
theorem dX13_wedTo_100 : decode cX13_wedTo 100 = .ok (.iload 6, 2) := by decide +kernel
theorem dX13_wedTo_102 : decode cX13_wedTo 102 = .ok (.iaload, 1) := by decide +kernel
theorem dX13_wedTo_103 : decode cX13_wedTo 103 = .ok (.iload_n 1, 1) := by decide +kernel
theorem dX13_wedTo_104 : decode cX13_wedTo 104 = .ok (.if_icmp .ne 15, 3) := by decide +kernel
theorem dX13_wedTo_107 : decode cX13_wedTo 107 = .ok (.aload_n 0, 1) := by decide +kernel
theorem dX13_wedTo_108 : decode cX13_wedTo 108 = .ok (.getfield 25, 3) := by decide +kernel
theorem dX13_wedTo_111 : decode cX13_wedTo 111 = .ok (.iload 6, 2) := by decide +kernel
theorem dX13_wedTo_113 : decode cX13_wedTo 113 = .ok (.iconst 1, 1) := by decide +kernel
theorem dX13_wedTo_114 : decode cX13_wedTo 114 = .ok (.iadd, 1) := by decide +kernel
theorem dX13_wedTo_115 : decode cX13_wedTo 115 = .ok (.iaload, 1) := by decide +kernel
theorem dX13_wedTo_116 : decode cX13_wedTo 116 = .ok (.goto 10, 3) := by decide +kernel
theorem dX13_wedTo_119 : decode cX13_wedTo 119 = .ok (.aload_n 0, 1) := by decide +kernel
theorem dX13_wedTo_120 : decode cX13_wedTo 120 = .ok (.getfield 25, 3) := by decide +kernel
theorem dX13_wedTo_123 : decode cX13_wedTo 123 = .ok (.iload 6, 2) := by decide +kernel
theorem dX13_wedTo_125 : decode cX13_wedTo 125 = .ok (.iaload, 1) := by decide +kernel
theorem dX13_wedTo_126 : decode cX13_wedTo 126 = .ok (.istore_n 3, 1) := by decide +kernel
theorem dX13_wedTo_127 : decode cX13_wedTo 127 = .ok (.aload_n 0, 1) := by decide +kernel
theorem dX13_wedTo_128 : decode cX13_wedTo 128 = .ok (.getfield 25, 3) := by decide +kernel
theorem dX13_wedTo_131 : decode cX13_wedTo 131 = .ok (.iload 6, 2) := by decide +kernel
theorem dX13_wedTo_133 : decode cX13_wedTo 133 = .ok (.iconst 2, 1) := by decide +kernel
theorem dX13_wedTo_134 : decode cX13_wedTo 134 = .ok (.iadd, 1) := by decide +kernel
theorem dX13_wedTo_135 : decode cX13_wedTo 135 = .ok (.iaload, 1) := by decide +kernel
theorem dX13_wedTo_136 : decode cX13_wedTo 136 = .ok (.istore 4, 2) := by decide +kernel
theorem dX13_wedTo_138 : decode cX13_wedTo 138 = .ok (.iinc 5 1, 3) := by decide +kernel
theorem dX13_wedTo_141 : decode cX13_wedTo 141 = .ok (.goto (-132), 3) := by decide +kernel
theorem dX13_wedTo_144 : decode cX13_wedTo 144 = .ok (.iload_n 3, 1) := by decide +kernel
theorem dX13_wedTo_145 : decode cX13_wedTo 145 = .ok (.ireturn, 1) := by decide +kernel
theorem dX13_person_0 : decode cX13_person 0 = .ok (.aload_n 0, 1) := by decide +kernel
theorem dX13_person_1 : decode cX13_person 1 = .ok (.iconst 0, 1) := by decide +kernel
theorem dX13_person_2 : decode cX13_person 2 = .ok (.putfield 61, 3) := by decide +kernel
theorem dX13_person_5 : decode cX13_person 5 = .ok (.aload_n 0, 1) := by decide +kernel
theorem dX13_person_6 : decode cX13_person 6 = .ok (.iload_n 1, 1) := by decide +kernel
theorem dX13_person_7 : decode cX13_person 7 = .ok (.invokevirtual 206, 3) := by decide +kernel
theorem dX13_person_10 : decode cX13_person 10 = .ok (.ifCond .ne 10, 3) := by decide +kernel
theorem dX13_person_13 : decode cX13_person 13 = .ok (.aload_n 0, 1) := by decide +kernel
theorem dX13_person_14 : decode cX13_person 14 = .ok (.iconst 1, 1) := by decide +kernel
theorem dX13_person_15 : decode cX13_person 15 = .ok (.putfield 61, 3) := by decide +kernel
theorem dX13_person_18 : decode cX13_person 18 = .ok (.iconst 0, 1) := by decide +kernel
theorem dX13_person_19 : decode cX13_person 19 = .ok (.ireturn, 1) := by decide +kernel
theorem dX13_person_20 : decode cX13_person 20 = .ok (.iload_n 2, 1) := by decide +kernel
theorem dX13_person_21 : decode cX13_person 21 = .ok (.tableswitch 76 0 4 #[35, 45, 51, 57, 67], 35) := by decide +kernel
theorem dX13_person_56 : decode cX13_person 56 = .ok (.aload_n 0, 1) := by decide +kernel
theorem dX13_person_57 : decode cX13_person 57 = .ok (.getfield 13, 3) := by decide +kernel
theorem dX13_person_60 : decode cX13_person 60 = .ok (.bipush 14, 2) := by decide +kernel
theorem dX13_person_62 : decode cX13_person 62 = .ok (.iload_n 1, 1) := by decide +kernel
theorem dX13_person_63 : decode cX13_person 63 = .ok (.iadd, 1) := by decide +kernel
theorem dX13_person_64 : decode cX13_person 64 = .ok (.iaload, 1) := by decide +kernel
theorem dX13_person_65 : decode cX13_person 65 = .ok (.ireturn, 1) := by decide +kernel
theorem dX13_person_66 : decode cX13_person 66 = .ok (.aload_n 0, 1) := by decide +kernel
theorem dX13_person_67 : decode cX13_person 67 = .ok (.iload_n 1, 1) := by decide +kernel
theorem dX13_person_68 : decode cX13_person 68 = .ok (.invokevirtual 203, 3) := by decide +kernel
theorem dX13_person_71 : decode cX13_person 71 = .ok (.ireturn, 1) := by decide +kernel
theorem dX13_person_72 : decode cX13_person 72 = .ok (.aload_n 0, 1) := by decide +kernel
theorem dX13_person_73 : decode cX13_person 73 = .ok (.iload_n 1, 1) := by decide +kernel
theorem dX13_person_74 : decode cX13_person 74 = .ok (.invokevirtual 209, 3) := by decide +kernel
theorem dX13_person_77 : decode cX13_person 77 = .ok (.ireturn, 1) := by decide +kernel
theorem dX13_person_78 : decode cX13_person 78 = .ok (.aload_n 0, 1) := by decide +kernel
theorem dX13_person_79 : decode cX13_person 79 = .ok (.getfield 13, 3) := by decide +kernel
theorem dX13_person_82 : decode cX13_person 82 = .ok (.bipush 24, 2) := by decide +kernel
theorem dX13_person_84 : decode cX13_person 84 = .ok (.iload_n 1, 1) := by decide +kernel
theorem dX13_person_85 : decode cX13_person 85 = .ok (.iadd, 1) := by decide +kernel
theorem dX13_person_86 : decode cX13_person 86 = .ok (.iaload, 1) := by decide +kernel
theorem dX13_person_87 : decode cX13_person 87 = .ok (.ireturn, 1) := by decide +kernel
theorem dX13_person_88 : decode cX13_person 88 = .ok (.aload_n 0, 1) := by decide +kernel
theorem dX13_person_89 : decode cX13_person 89 = .ok (.iload_n 1, 1) := by decide +kernel
theorem dX13_person_90 : decode cX13_person 90 = .ok (.sipush 9999, 3) := by decide +kernel
theorem dX13_person_93 : decode cX13_person 93 = .ok (.invokevirtual 212, 3) := by decide +kernel
theorem dX13_person_96 : decode cX13_person 96 = .ok (.ireturn, 1) := by decide +kernel
theorem dX13_person_97 : decode cX13_person 97 = .ok (.aload_n 0, 1) := by decide +kernel
theorem dX13_person_98 : decode cX13_person 98 = .ok (.iconst 2, 1) := by decide +kernel
theorem dX13_person_99 : decode cX13_person 99 = .ok (.putfield 61, 3) := by decide +kernel
theorem dX13_person_102 : decode cX13_person 102 = .ok (.iconst 0, 1) := by decide +kernel
theorem dX13_person_103 : decode cX13_person 103 = .ok (.ireturn, 1) := by decide +kernel
theorem dX13_paper_0 : decode cX13_paper 0 = .ok (.aload_n 0, 1) := by decide +kernel
theorem dX13_paper_1 : decode cX13_paper 1 = .ok (.iconst 0, 1) := by decide +kernel
theorem dX13_paper_2 : decode cX13_paper 2 = .ok (.putfield 61, 3) := by decide +kernel
theorem dX13_paper_5 : decode cX13_paper 5 = .ok (.aload_n 0, 1) := by decide +kernel
theorem dX13_paper_6 : decode cX13_paper 6 = .ok (.iload_n 1, 1) := by decide +kernel
theorem dX13_paper_7 : decode cX13_paper 7 = .ok (.invokevirtual 215, 3) := by decide +kernel
theorem dX13_paper_10 : decode cX13_paper 10 = .ok (.ifCond .ne 10, 3) := by decide +kernel
theorem dX13_paper_13 : decode cX13_paper 13 = .ok (.aload_n 0, 1) := by decide +kernel
theorem dX13_paper_14 : decode cX13_paper 14 = .ok (.iconst 1, 1) := by decide +kernel
theorem dX13_paper_15 : decode cX13_paper 15 = .ok (.putfield 61, 3) := by decide +kernel
theorem dX13_paper_18 : decode cX13_paper 18 = .ok (.iconst 0, 1) := by decide +kernel
theorem dX13_paper_19 : decode cX13_paper 19 = .ok (.ireturn, 1) := by decide +kernel
theorem dX13_paper_20 : decode cX13_paper 20 = .ok (.iload_n 2, 1) := by decide +kernel
theorem dX13_paper_21 : decode cX13_paper 21 = .ok (.tableswitch 107 0 9 #[55, 55, 55, 55, 55, 62, 72, 79, 87, 97], 55) := by decide +kernel
theorem dX13_paper_76 : decode cX13_paper 76 = .ok (.aload_n 0, 1) := by decide +kernel
theorem dX13_paper_77 : decode cX13_paper 77 = .ok (.iload_n 1, 1) := by decide +kernel
theorem dX13_paper_78 : decode cX13_paper 78 = .ok (.iload_n 2, 1) := by decide +kernel
theorem dX13_paper_79 : decode cX13_paper 79 = .ok (.invokevirtual 218, 3) := by decide +kernel
theorem dX13_paper_82 : decode cX13_paper 82 = .ok (.ireturn, 1) := by decide +kernel
theorem dX13_paper_83 : decode cX13_paper 83 = .ok (.aload_n 0, 1) := by decide +kernel
theorem dX13_paper_84 : decode cX13_paper 84 = .ok (.getfield 25, 3) := by decide +kernel
theorem dX13_paper_87 : decode cX13_paper 87 = .ok (.bipush 22, 2) := by decide +kernel
theorem dX13_paper_89 : decode cX13_paper 89 = .ok (.iload_n 1, 1) := by decide +kernel
theorem dX13_paper_90 : decode cX13_paper 90 = .ok (.iadd, 1) := by decide +kernel
theorem dX13_paper_91 : decode cX13_paper 91 = .ok (.iaload, 1) := by decide +kernel
theorem dX13_paper_92 : decode cX13_paper 92 = .ok (.ireturn, 1) := by decide +kernel
theorem dX13_paper_93 : decode cX13_paper 93 = .ok (.aload_n 0, 1) := by decide +kernel
theorem dX13_paper_94 : decode cX13_paper 94 = .ok (.iload_n 1, 1) := by decide +kernel
theorem dX13_paper_95 : decode cX13_paper 95 = .ok (.iconst 5, 1) := by decide +kernel
theorem dX13_paper_96 : decode cX13_paper 96 = .ok (.invokevirtual 218, 3) := by decide +kernel
theorem dX13_paper_99 : decode cX13_paper 99 = .ok (.ireturn, 1) := by decide +kernel
theorem dX13_paper_100 : decode cX13_paper 100 = .ok (.aload_n 0, 1) := by decide +kernel
theorem dX13_paper_101 : decode cX13_paper 101 = .ok (.iload_n 1, 1) := by decide +kernel
theorem dX13_paper_102 : decode cX13_paper 102 = .ok (.bipush 6, 2) := by decide +kernel
theorem dX13_paper_104 : decode cX13_paper 104 = .ok (.invokevirtual 218, 3) := by decide +kernel
theorem dX13_paper_107 : decode cX13_paper 107 = .ok (.ireturn, 1) := by decide +kernel
theorem dX13_paper_108 : decode cX13_paper 108 = .ok (.aload_n 0, 1) := by decide +kernel
theorem dX13_paper_109 : decode cX13_paper 109 = .ok (.getfield 25, 3) := by decide +kernel
theorem dX13_paper_112 : decode cX13_paper 112 = .ok (.bipush 10, 2) := by decide +kernel
theorem dX13_paper_114 : decode cX13_paper 114 = .ok (.iload_n 1, 1) := by decide +kernel
theorem dX13_paper_115 : decode cX13_paper 115 = .ok (.iadd, 1) := by decide +kernel
theorem dX13_paper_116 : decode cX13_paper 116 = .ok (.iaload, 1) := by decide +kernel
theorem dX13_paper_117 : decode cX13_paper 117 = .ok (.ireturn, 1) := by decide +kernel
theorem dX13_paper_118 : decode cX13_paper 118 = .ok (.aload_n 0, 1) := by decide +kernel
theorem dX13_paper_119 : decode cX13_paper 119 = .ok (.getfield 25, 3) := by decide +kernel
theorem dX13_paper_122 : decode cX13_paper 122 = .ok (.bipush 34, 2) := by decide +kernel
theorem dX13_paper_124 : decode cX13_paper 124 = .ok (.iload_n 1, 1) := by decide +kernel
theorem dX13_paper_125 : decode cX13_paper 125 = .ok (.iadd, 1) := by decide +kernel
theorem dX13_paper_126 : decode cX13_paper 126 = .ok (.iaload, 1) := by decide +kernel
theorem dX13_paper_127 : decode cX13_paper 127 = .ok (.ireturn, 1) := by decide +kernel
theorem dX13_paper_128 : decode cX13_paper 128 = .ok (.aload_n 0, 1) := by decide +kernel
theorem dX13_paper_129 : decode cX13_paper 129 = .ok (.iconst 2, 1) := by decide +kernel
theorem dX13_paper_130 : decode cX13_paper 130 = .ok (.putfield 61, 3) := by decide +kernel
theorem dX13_paper_133 : decode cX13_paper 133 = .ok (.iconst 0, 1) := by decide +kernel
theorem dX13_paper_134 : decode cX13_paper 134 = .ok (.ireturn, 1) := by decide +kernel
theorem dX13_thing_0 : decode cX13_thing 0 = .ok (.aload_n 0, 1) := by decide +kernel
theorem dX13_thing_1 : decode cX13_thing 1 = .ok (.iconst 0, 1) := by decide +kernel
theorem dX13_thing_2 : decode cX13_thing 2 = .ok (.putfield 61, 3) := by decide +kernel
theorem dX13_thing_5 : decode cX13_thing 5 = .ok (.aload_n 0, 1) := by decide +kernel
theorem dX13_thing_6 : decode cX13_thing 6 = .ok (.iload_n 1, 1) := by decide +kernel
theorem dX13_thing_7 : decode cX13_thing 7 = .ok (.invokevirtual 221, 3) := by decide +kernel
theorem dX13_thing_10 : decode cX13_thing 10 = .ok (.ifCond .eq 28, 3) := by decide +kernel
theorem dX13_thing_13 : decode cX13_thing 13 = .ok (.iload_n 2, 1) := by decide +kernel
theorem dX13_thing_14 : decode cX13_thing 14 = .ok (.ifCond .lt 24, 3) := by decide +kernel
theorem dX13_thing_17 : decode cX13_thing 17 = .ok (.iload_n 2, 1) := by decide +kernel
theorem dX13_thing_18 : decode cX13_thing 18 = .ok (.iconst 2, 1) := by decide +kernel
theorem dX13_thing_19 : decode cX13_thing 19 = .ok (.if_icmp .gt 19, 3) := by decide +kernel
theorem dX13_thing_22 : decode cX13_thing 22 = .ok (.aload_n 0, 1) := by decide +kernel
theorem dX13_thing_23 : decode cX13_thing 23 = .ok (.getfield 13, 3) := by decide +kernel
theorem dX13_thing_26 : decode cX13_thing 26 = .ok (.bipush 34, 2) := by decide +kernel
theorem dX13_thing_28 : decode cX13_thing 28 = .ok (.iconst 3, 1) := by decide +kernel
theorem dX13_thing_29 : decode cX13_thing 29 = .ok (.iload_n 1, 1) := by decide +kernel
theorem dX13_thing_30 : decode cX13_thing 30 = .ok (.imul, 1) := by decide +kernel
theorem dX13_thing_31 : decode cX13_thing 31 = .ok (.iadd, 1) := by decide +kernel
theorem dX13_thing_32 : decode cX13_thing 32 = .ok (.iload_n 2, 1) := by decide +kernel
theorem dX13_thing_33 : decode cX13_thing 33 = .ok (.iadd, 1) := by decide +kernel
theorem dX13_thing_34 : decode cX13_thing 34 = .ok (.iaload, 1) := by decide +kernel
theorem dX13_thing_35 : decode cX13_thing 35 = .ok (.goto 4, 3) := by decide +kernel
theorem dX13_thing_38 : decode cX13_thing 38 = .ok (.iconst (-1), 1) := by decide +kernel
theorem dX13_thing_39 : decode cX13_thing 39 = .ok (.ireturn, 1) := by decide +kernel
theorem dX13_land_0 : decode cX13_land 0 = .ok (.aload_n 0, 1) := by decide +kernel
theorem dX13_land_1 : decode cX13_land 1 = .ok (.iconst 0, 1) := by decide +kernel
theorem dX13_land_2 : decode cX13_land 2 = .ok (.putfield 61, 3) := by decide +kernel
theorem dX13_land_5 : decode cX13_land 5 = .ok (.iload_n 1, 1) := by decide +kernel
theorem dX13_land_6 : decode cX13_land 6 = .ok (.ifCond .eq 8, 3) := by decide +kernel
theorem dX13_land_9 : decode cX13_land 9 = .ok (.iload_n 1, 1) := by decide +kernel
theorem dX13_land_10 : decode cX13_land 10 = .ok (.iconst 1, 1) := by decide +kernel
theorem dX13_land_11 : decode cX13_land 11 = .ok (.if_icmp .ne 27, 3) := by decide +kernel
theorem dX13_land_14 : decode cX13_land 14 = .ok (.iload_n 2, 1) := by decide +kernel
theorem dX13_land_15 : decode cX13_land 15 = .ok (.ifCond .lt 23, 3) := by decide +kernel
theorem dX13_land_18 : decode cX13_land 18 = .ok (.iload_n 2, 1) := by decide +kernel
theorem dX13_land_19 : decode cX13_land 19 = .ok (.iconst 4, 1) := by decide +kernel
theorem dX13_land_20 : decode cX13_land 20 = .ok (.if_icmp .gt 18, 3) := by decide +kernel
theorem dX13_land_23 : decode cX13_land 23 = .ok (.aload_n 0, 1) := by decide +kernel
theorem dX13_land_24 : decode cX13_land 24 = .ok (.getfield 13, 3) := by decide +kernel
theorem dX13_land_27 : decode cX13_land 27 = .ok (.iconst 4, 1) := by decide +kernel
theorem dX13_land_28 : decode cX13_land 28 = .ok (.iconst 5, 1) := by decide +kernel
theorem dX13_land_29 : decode cX13_land 29 = .ok (.iload_n 1, 1) := by decide +kernel
theorem dX13_land_30 : decode cX13_land 30 = .ok (.imul, 1) := by decide +kernel
theorem dX13_land_31 : decode cX13_land 31 = .ok (.iadd, 1) := by decide +kernel
theorem dX13_land_32 : decode cX13_land 32 = .ok (.iload_n 2, 1) := by decide +kernel
theorem dX13_land_33 : decode cX13_land 33 = .ok (.iadd, 1) := by decide +kernel
theorem dX13_land_34 : decode cX13_land 34 = .ok (.iaload, 1) := by decide +kernel
theorem dX13_land_35 : decode cX13_land 35 = .ok (.goto 4, 3) := by decide +kernel
theorem dX13_land_38 : decode cX13_land 38 = .ok (.iconst (-1), 1) := by decide +kernel
theorem dX13_land_39 : decode cX13_land 39 = .ok (.ireturn, 1) := by decide +kernel
theorem dX13_give_0 : decode cX13_give 0 = .ok (.aload_n 0, 1) := by decide +kernel
theorem dX13_give_1 : decode cX13_give 1 = .ok (.iconst 0, 1) := by decide +kernel
theorem dX13_give_2 : decode cX13_give 2 = .ok (.putfield 61, 3) := by decide +kernel
theorem dX13_give_5 : decode cX13_give 5 = .ok (.aload_n 0, 1) := by decide +kernel
theorem dX13_give_6 : decode cX13_give 6 = .ok (.iload_n 1, 1) := by decide +kernel
theorem dX13_give_7 : decode cX13_give 7 = .ok (.invokevirtual 215, 3) := by decide +kernel
theorem dX13_give_10 : decode cX13_give 10 = .ok (.ifCond .eq 16, 3) := by decide +kernel
theorem dX13_give_13 : decode cX13_give 13 = .ok (.iload_n 2, 1) := by decide +kernel
theorem dX13_give_14 : decode cX13_give 14 = .ok (.ifCond .lt 12, 3) := by decide +kernel
theorem dX13_give_17 : decode cX13_give 17 = .ok (.iload_n 3, 1) := by decide +kernel
theorem dX13_give_18 : decode cX13_give 18 = .ok (.ifCond .lt 8, 3) := by decide +kernel
theorem dX13_give_21 : decode cX13_give 21 = .ok (.iload_n 3, 1) := by decide +kernel
theorem dX13_give_22 : decode cX13_give 22 = .ok (.iconst 4, 1) := by decide +kernel
theorem dX13_give_23 : decode cX13_give 23 = .ok (.if_icmp .le 5, 3) := by decide +kernel
theorem dX13_give_26 : decode cX13_give 26 = .ok (.iconst (-1), 1) := by decide +kernel
theorem dX13_give_27 : decode cX13_give 27 = .ok (.ireturn, 1) := by decide +kernel
theorem dX13_give_28 : decode cX13_give 28 = .ok (.iload_n 2, 1) := by decide +kernel
theorem dX13_give_29 : decode cX13_give 29 = .ok (.aload_n 0, 1) := by decide +kernel
theorem dX13_give_30 : decode cX13_give 30 = .ok (.iload_n 1, 1) := by decide +kernel
theorem dX13_give_31 : decode cX13_give 31 = .ok (.iconst 5, 1) := by decide +kernel
theorem dX13_give_32 : decode cX13_give 32 = .ok (.invokevirtual 218, 3) := by decide +kernel
theorem dX13_give_35 : decode cX13_give 35 = .ok (.if_icmp .ge 25, 3) := by decide +kernel
theorem dX13_give_38 : decode cX13_give 38 = .ok (.aload_n 0, 1) := by decide +kernel
theorem dX13_give_39 : decode cX13_give 39 = .ok (.getfield 13, 3) := by decide +kernel
theorem dX13_give_42 : decode cX13_give 42 = .ok (.sipush 142, 3) := by decide +kernel
theorem dX13_give_45 : decode cX13_give 45 = .ok (.iconst 5, 1) := by decide +kernel
theorem dX13_give_46 : decode cX13_give 46 = .ok (.bipush 6, 2) := by decide +kernel
theorem dX13_give_48 : decode cX13_give 48 = .ok (.iload_n 1, 1) := by decide +kernel
theorem dX13_give_49 : decode cX13_give 49 = .ok (.imul, 1) := by decide +kernel
theorem dX13_give_50 : decode cX13_give 50 = .ok (.iload_n 2, 1) := by decide +kernel
theorem dX13_give_51 : decode cX13_give 51 = .ok (.iadd, 1) := by decide +kernel
theorem dX13_give_52 : decode cX13_give 52 = .ok (.imul, 1) := by decide +kernel
theorem dX13_give_53 : decode cX13_give 53 = .ok (.iadd, 1) := by decide +kernel
theorem dX13_give_54 : decode cX13_give 54 = .ok (.iload_n 3, 1) := by decide +kernel
theorem dX13_give_55 : decode cX13_give 55 = .ok (.iadd, 1) := by decide +kernel
theorem dX13_give_56 : decode cX13_give 56 = .ok (.iaload, 1) := by decide +kernel
theorem dX13_give_57 : decode cX13_give 57 = .ok (.goto 5, 3) := by decide +kernel
theorem dX13_give_60 : decode cX13_give 60 = .ok (.bipush (-2), 2) := by decide +kernel
theorem dX13_give_62 : decode cX13_give 62 = .ok (.ireturn, 1) := by decide +kernel
theorem dX13_keeps_0 : decode cX13_keeps 0 = .ok (.aload_n 0, 1) := by decide +kernel
theorem dX13_keeps_1 : decode cX13_keeps 1 = .ok (.getfield 194, 3) := by decide +kernel
theorem dX13_keeps_4 : decode cX13_keeps 4 = .ok (.bipush 16, 2) := by decide +kernel
theorem dX13_keeps_6 : decode cX13_keeps 6 = .ok (.if_icmp .ne 46, 3) := by decide +kernel
theorem dX13_keeps_9 : decode cX13_keeps 9 = .ok (.bipush 65, 2) := by decide +kernel
theorem dX13_keeps_11 : decode cX13_keeps 11 = .ok (.istore_n 1, 1) := by decide +kernel
theorem dX13_keeps_12 : decode cX13_keeps 12 = .ok (.iload_n 1, 1) := by decide +kernel
theorem dX13_keeps_13 : decode cX13_keeps 13 = .ok (.aload_n 0, 1) := by decide +kernel
theorem dX13_keeps_14 : decode cX13_keeps 14 = .ok (.getfield 31, 3) := by decide +kernel
theorem dX13_keeps_17 : decode cX13_keeps 17 = .ok (.arraylength, 1) := by decide +kernel
theorem dX13_keeps_18 : decode cX13_keeps 18 = .ok (.if_icmp .ge 24, 3) := by decide +kernel
theorem dX13_keeps_21 : decode cX13_keeps 21 = .ok (.aload_n 0, 1) := by decide +kernel
theorem dX13_keeps_22 : decode cX13_keeps 22 = .ok (.getfield 31, 3) := by decide +kernel
theorem dX13_keeps_25 : decode cX13_keeps 25 = .ok (.iload_n 1, 1) := by decide +kernel
theorem dX13_keeps_26 : decode cX13_keeps 26 = .ok (.bipush 65, 2) := by decide +kernel
theorem dX13_keeps_28 : decode cX13_keeps 28 = .ok (.isub, 1) := by decide +kernel
theorem dX13_keeps_29 : decode cX13_keeps 29 = .ok (.aload_n 0, 1) := by decide +kernel
theorem dX13_keeps_30 : decode cX13_keeps 30 = .ok (.getfield 31, 3) := by decide +kernel
theorem dX13_keeps_33 : decode cX13_keeps 33 = .ok (.iload_n 1, 1) := by decide +kernel
theorem dX13_keeps_34 : decode cX13_keeps 34 = .ok (.iaload, 1) := by decide +kernel
theorem dX13_keeps_35 : decode cX13_keeps 35 = .ok (.iastore, 1) := by decide +kernel
theorem dX13_keeps_36 : decode cX13_keeps 36 = .ok (.iinc 1 1, 3) := by decide +kernel
theorem dX13_keeps_39 : decode cX13_keeps 39 = .ok (.goto (-27), 3) := by decide +kernel
theorem dX13_keeps_42 : decode cX13_keeps 42 = .ok (.aload_n 0, 1) := by decide +kernel
theorem dX13_keeps_43 : decode cX13_keeps 43 = .ok (.dup, 1) := by decide +kernel
theorem dX13_keeps_44 : decode cX13_keeps 44 = .ok (.getfield 194, 3) := by decide +kernel
theorem dX13_keeps_47 : decode cX13_keeps 47 = .ok (.iconst 1, 1) := by decide +kernel
theorem dX13_keeps_48 : decode cX13_keeps 48 = .ok (.isub, 1) := by decide +kernel
theorem dX13_keeps_49 : decode cX13_keeps 49 = .ok (.putfield 194, 3) := by decide +kernel
theorem dX13_keeps_52 : decode cX13_keeps 52 = .ok (.iconst 0, 1) := by decide +kernel
theorem dX13_keeps_53 : decode cX13_keeps 53 = .ok (.istore_n 1, 1) := by decide +kernel
theorem dX13_keeps_54 : decode cX13_keeps 54 = .ok (.iload_n 1, 1) := by decide +kernel
theorem dX13_keeps_55 : decode cX13_keeps 55 = .ok (.bipush 65, 2) := by decide +kernel
theorem dX13_keeps_57 : decode cX13_keeps 57 = .ok (.if_icmp .ge 29, 3) := by decide +kernel
theorem dX13_keeps_60 : decode cX13_keeps 60 = .ok (.aload_n 0, 1) := by decide +kernel
theorem dX13_keeps_61 : decode cX13_keeps 61 = .ok (.getfield 31, 3) := by decide +kernel
theorem dX13_keeps_64 : decode cX13_keeps 64 = .ok (.bipush 65, 2) := by decide +kernel
theorem dX13_keeps_66 : decode cX13_keeps 66 = .ok (.aload_n 0, 1) := by decide +kernel
theorem dX13_keeps_67 : decode cX13_keeps 67 = .ok (.getfield 194, 3) := by decide +kernel
theorem dX13_keeps_70 : decode cX13_keeps 70 = .ok (.imul, 1) := by decide +kernel
theorem dX13_keeps_71 : decode cX13_keeps 71 = .ok (.iload_n 1, 1) := by decide +kernel
theorem dX13_keeps_72 : decode cX13_keeps 72 = .ok (.iadd, 1) := by decide +kernel
theorem dX13_keeps_73 : decode cX13_keeps 73 = .ok (.aload_n 0, 1) := by decide +kernel
theorem dX13_keeps_74 : decode cX13_keeps 74 = .ok (.getfield 25, 3) := by decide +kernel
theorem dX13_keeps_77 : decode cX13_keeps 77 = .ok (.iload_n 1, 1) := by decide +kernel
theorem dX13_keeps_78 : decode cX13_keeps 78 = .ok (.iaload, 1) := by decide +kernel
theorem dX13_keeps_79 : decode cX13_keeps 79 = .ok (.iastore, 1) := by decide +kernel
theorem dX13_keeps_80 : decode cX13_keeps 80 = .ok (.iinc 1 1, 3) := by decide +kernel
theorem dX13_keeps_83 : decode cX13_keeps 83 = .ok (.goto (-29), 3) := by decide +kernel
theorem dX13_keeps_86 : decode cX13_keeps 86 = .ok (.aload_n 0, 1) := by decide +kernel
theorem dX13_keeps_87 : decode cX13_keeps 87 = .ok (.dup, 1) := by decide +kernel
theorem dX13_keeps_88 : decode cX13_keeps 88 = .ok (.getfield 194, 3) := by decide +kernel
theorem dX13_keeps_91 : decode cX13_keeps 91 = .ok (.iconst 1, 1) := by decide +kernel
theorem dX13_keeps_92 : decode cX13_keeps 92 = .ok (.iadd, 1) := by decide +kernel
theorem dX13_keeps_93 : decode cX13_keeps 93 = .ok (.putfield 194, 3) := by decide +kernel
theorem dX13_keeps_96 : decode cX13_keeps 96 = .ok (.return_, 1) := by decide +kernel
theorem dX13_puts_0 : decode cX13_puts 0 = .ok (.aload_n 0, 1) := by decide +kernel
theorem dX13_puts_1 : decode cX13_puts 1 = .ok (.getfield 25, 3) := by decide +kernel
theorem dX13_puts_4 : decode cX13_puts 4 = .ok (.iload_n 1, 1) := by decide +kernel
theorem dX13_puts_5 : decode cX13_puts 5 = .ok (.iaload, 1) := by decide +kernel
theorem dX13_puts_6 : decode cX13_puts 6 = .ok (.iload_n 2, 1) := by decide +kernel
theorem dX13_puts_7 : decode cX13_puts 7 = .ok (.if_icmp .ne 5, 3) := by decide +kernel
theorem dX13_puts_10 : decode cX13_puts 10 = .ok (.iconst 0, 1) := by decide +kernel
theorem dX13_puts_11 : decode cX13_puts 11 = .ok (.ireturn, 1) := by decide +kernel
theorem dX13_puts_12 : decode cX13_puts 12 = .ok (.aload_n 0, 1) := by decide +kernel
theorem dX13_puts_13 : decode cX13_puts 13 = .ok (.invokevirtual 224, 3) := by decide +kernel
theorem dX13_puts_16 : decode cX13_puts 16 = .ok (.aload_n 0, 1) := by decide +kernel
theorem dX13_puts_17 : decode cX13_puts 17 = .ok (.getfield 25, 3) := by decide +kernel
theorem dX13_puts_20 : decode cX13_puts 20 = .ok (.iload_n 1, 1) := by decide +kernel
theorem dX13_puts_21 : decode cX13_puts 21 = .ok (.iload_n 2, 1) := by decide +kernel
theorem dX13_puts_22 : decode cX13_puts 22 = .ok (.iastore, 1) := by decide +kernel
theorem dX13_puts_23 : decode cX13_puts 23 = .ok (.iconst 1, 1) := by decide +kernel
theorem dX13_puts_24 : decode cX13_puts 24 = .ok (.ireturn, 1) := by decide +kernel
theorem dX13_lose_0 : decode cX13_lose 0 = .ok (.aload_n 0, 1) := by decide +kernel
theorem dX13_lose_1 : decode cX13_lose 1 = .ok (.iconst 0, 1) := by decide +kernel
theorem dX13_lose_2 : decode cX13_lose 2 = .ok (.putfield 61, 3) := by decide +kernel
theorem dX13_lose_5 : decode cX13_lose 5 = .ok (.aload_n 0, 1) := by decide +kernel
theorem dX13_lose_6 : decode cX13_lose 6 = .ok (.iload_n 1, 1) := by decide +kernel
theorem dX13_lose_7 : decode cX13_lose 7 = .ok (.invokevirtual 215, 3) := by decide +kernel
theorem dX13_lose_10 : decode cX13_lose 10 = .ok (.ifCond .eq 28, 3) := by decide +kernel
theorem dX13_lose_13 : decode cX13_lose 13 = .ok (.iload_n 2, 1) := by decide +kernel
theorem dX13_lose_14 : decode cX13_lose 14 = .ok (.ifCond .lt 24, 3) := by decide +kernel
theorem dX13_lose_17 : decode cX13_lose 17 = .ok (.iload_n 2, 1) := by decide +kernel
theorem dX13_lose_18 : decode cX13_lose 18 = .ok (.iconst 3, 1) := by decide +kernel
theorem dX13_lose_19 : decode cX13_lose 19 = .ok (.if_icmp .gt 19, 3) := by decide +kernel
theorem dX13_lose_22 : decode cX13_lose 22 = .ok (.aload_n 0, 1) := by decide +kernel
theorem dX13_lose_23 : decode cX13_lose 23 = .ok (.bipush 10, 2) := by decide +kernel
theorem dX13_lose_25 : decode cX13_lose 25 = .ok (.iload_n 1, 1) := by decide +kernel
theorem dX13_lose_26 : decode cX13_lose 26 = .ok (.iadd, 1) := by decide +kernel
theorem dX13_lose_27 : decode cX13_lose 27 = .ok (.iload_n 2, 1) := by decide +kernel
theorem dX13_lose_28 : decode cX13_lose 28 = .ok (.invokevirtual 227, 3) := by decide +kernel
theorem dX13_lose_31 : decode cX13_lose 31 = .ok (.ifCond .eq 7, 3) := by decide +kernel
theorem dX13_lose_34 : decode cX13_lose 34 = .ok (.iconst 1, 1) := by decide +kernel
theorem dX13_lose_35 : decode cX13_lose 35 = .ok (.goto 4, 3) := by decide +kernel
theorem dX13_lose_38 : decode cX13_lose 38 = .ok (.iconst 0, 1) := by decide +kernel
theorem dX13_lose_39 : decode cX13_lose 39 = .ok (.ireturn, 1) := by decide +kernel
theorem dX13_find_0 : decode cX13_find 0 = .ok (.aload_n 0, 1) := by decide +kernel
theorem dX13_find_1 : decode cX13_find 1 = .ok (.iconst 0, 1) := by decide +kernel
theorem dX13_find_2 : decode cX13_find 2 = .ok (.putfield 61, 3) := by decide +kernel
theorem dX13_find_5 : decode cX13_find 5 = .ok (.aload_n 0, 1) := by decide +kernel
theorem dX13_find_6 : decode cX13_find 6 = .ok (.iload_n 1, 1) := by decide +kernel
theorem dX13_find_7 : decode cX13_find 7 = .ok (.invokevirtual 215, 3) := by decide +kernel
theorem dX13_find_10 : decode cX13_find 10 = .ok (.ifCond .eq 20, 3) := by decide +kernel
theorem dX13_find_13 : decode cX13_find 13 = .ok (.aload_n 0, 1) := by decide +kernel
theorem dX13_find_14 : decode cX13_find 14 = .ok (.bipush 10, 2) := by decide +kernel
theorem dX13_find_16 : decode cX13_find 16 = .ok (.iload_n 1, 1) := by decide +kernel
theorem dX13_find_17 : decode cX13_find 17 = .ok (.iadd, 1) := by decide +kernel
theorem dX13_find_18 : decode cX13_find 18 = .ok (.bipush (-2), 2) := by decide +kernel
theorem dX13_find_20 : decode cX13_find 20 = .ok (.invokevirtual 227, 3) := by decide +kernel
theorem dX13_find_23 : decode cX13_find 23 = .ok (.ifCond .eq 7, 3) := by decide +kernel
theorem dX13_find_26 : decode cX13_find 26 = .ok (.iconst 1, 1) := by decide +kernel
theorem dX13_find_27 : decode cX13_find 27 = .ok (.goto 4, 3) := by decide +kernel
theorem dX13_find_30 : decode cX13_find 30 = .ok (.iconst 0, 1) := by decide +kernel
theorem dX13_find_31 : decode cX13_find 31 = .ok (.ireturn, 1) := by decide +kernel
theorem dX13_copy_0 : decode cX13_copy 0 = .ok (.aload_n 0, 1) := by decide +kernel
theorem dX13_copy_1 : decode cX13_copy 1 = .ok (.iconst 0, 1) := by decide +kernel
theorem dX13_copy_2 : decode cX13_copy 2 = .ok (.putfield 61, 3) := by decide +kernel
theorem dX13_copy_5 : decode cX13_copy 5 = .ok (.aload_n 0, 1) := by decide +kernel
theorem dX13_copy_6 : decode cX13_copy 6 = .ok (.iload_n 1, 1) := by decide +kernel
theorem dX13_copy_7 : decode cX13_copy 7 = .ok (.invokevirtual 215, 3) := by decide +kernel
theorem dX13_copy_10 : decode cX13_copy 10 = .ok (.ifCond .ne 5, 3) := by decide +kernel
theorem dX13_copy_13 : decode cX13_copy 13 = .ok (.iconst (-1), 1) := by decide +kernel
theorem dX13_copy_14 : decode cX13_copy 14 = .ok (.ireturn, 1) := by decide +kernel
theorem dX13_copy_15 : decode cX13_copy 15 = .ok (.aload_n 0, 1) := by decide +kernel
theorem dX13_copy_16 : decode cX13_copy 16 = .ok (.getfield 25, 3) := by decide +kernel
theorem dX13_copy_19 : decode cX13_copy 19 = .ok (.bipush 10, 2) := by decide +kernel
theorem dX13_copy_21 : decode cX13_copy 21 = .ok (.iload_n 1, 1) := by decide +kernel
theorem dX13_copy_22 : decode cX13_copy 22 = .ok (.iadd, 1) := by decide +kernel
theorem dX13_copy_23 : decode cX13_copy 23 = .ok (.iaload, 1) := by decide +kernel
theorem dX13_copy_24 : decode cX13_copy 24 = .ok (.bipush (-2), 2) := by decide +kernel
theorem dX13_copy_26 : decode cX13_copy 26 = .ok (.if_icmp .eq 16, 3) := by decide +kernel
theorem dX13_copy_29 : decode cX13_copy 29 = .ok (.aload_n 0, 1) := by decide +kernel
theorem dX13_copy_30 : decode cX13_copy 30 = .ok (.getfield 25, 3) := by decide +kernel
theorem dX13_copy_33 : decode cX13_copy 33 = .ok (.bipush 10, 2) := by decide +kernel
theorem dX13_copy_35 : decode cX13_copy 35 = .ok (.iload_n 1, 1) := by decide +kernel
theorem dX13_copy_36 : decode cX13_copy 36 = .ok (.iadd, 1) := by decide +kernel
theorem dX13_copy_37 : decode cX13_copy 37 = .ok (.iaload, 1) := by decide +kernel
theorem dX13_copy_38 : decode cX13_copy 38 = .ok (.iconst 3, 1) := by decide +kernel
theorem dX13_copy_39 : decode cX13_copy 39 = .ok (.if_icmp .ne 6, 3) := by decide +kernel
theorem dX13_copy_42 : decode cX13_copy 42 = .ok (.bipush (-2), 2) := by decide +kernel
theorem dX13_copy_44 : decode cX13_copy 44 = .ok (.ireturn, 1) := by decide +kernel
theorem dX13_copy_45 : decode cX13_copy 45 = .ok (.aload_n 0, 1) := by decide +kernel
theorem dX13_copy_46 : decode cX13_copy 46 = .ok (.bipush 10, 2) := by decide +kernel
theorem dX13_copy_48 : decode cX13_copy 48 = .ok (.iload_n 1, 1) := by decide +kernel
theorem dX13_copy_49 : decode cX13_copy 49 = .ok (.iadd, 1) := by decide +kernel
theorem dX13_copy_50 : decode cX13_copy 50 = .ok (.aload_n 0, 1) := by decide +kernel
theorem dX13_copy_51 : decode cX13_copy 51 = .ok (.getfield 25, 3) := by decide +kernel
theorem dX13_copy_54 : decode cX13_copy 54 = .ok (.bipush 10, 2) := by decide +kernel
theorem dX13_copy_56 : decode cX13_copy 56 = .ok (.iload_n 1, 1) := by decide +kernel
theorem dX13_copy_57 : decode cX13_copy 57 = .ok (.iadd, 1) := by decide +kernel
theorem dX13_copy_58 : decode cX13_copy 58 = .ok (.iaload, 1) := by decide +kernel
theorem dX13_copy_59 : decode cX13_copy 59 = .ok (.iconst 1, 1) := by decide +kernel
theorem dX13_copy_60 : decode cX13_copy 60 = .ok (.iadd, 1) := by decide +kernel
theorem dX13_copy_61 : decode cX13_copy 61 = .ok (.invokevirtual 227, 3) := by decide +kernel
theorem dX13_copy_64 : decode cX13_copy 64 = .ok (.pop, 1) := by decide +kernel
theorem dX13_copy_65 : decode cX13_copy 65 = .ok (.aload_n 0, 1) := by decide +kernel
theorem dX13_copy_66 : decode cX13_copy 66 = .ok (.getfield 25, 3) := by decide +kernel
theorem dX13_copy_69 : decode cX13_copy 69 = .ok (.bipush 10, 2) := by decide +kernel
theorem dX13_copy_71 : decode cX13_copy 71 = .ok (.iload_n 1, 1) := by decide +kernel
theorem dX13_copy_72 : decode cX13_copy 72 = .ok (.iadd, 1) := by decide +kernel
theorem dX13_copy_73 : decode cX13_copy 73 = .ok (.iaload, 1) := by decide +kernel
theorem dX13_copy_74 : decode cX13_copy 74 = .ok (.ireturn, 1) := by decide +kernel
theorem dX13_witness_0 : decode cX13_witness 0 = .ok (.aload_n 0, 1) := by decide +kernel
theorem dX13_witness_1 : decode cX13_witness 1 = .ok (.iconst 0, 1) := by decide +kernel
theorem dX13_witness_2 : decode cX13_witness 2 = .ok (.putfield 61, 3) := by decide +kernel
theorem dX13_witness_5 : decode cX13_witness 5 = .ok (.aload_n 0, 1) := by decide +kernel
theorem dX13_witness_6 : decode cX13_witness 6 = .ok (.iload_n 1, 1) := by decide +kernel
theorem dX13_witness_7 : decode cX13_witness 7 = .ok (.invokevirtual 215, 3) := by decide +kernel
theorem dX13_witness_10 : decode cX13_witness 10 = .ok (.ifCond .eq 11, 3) := by decide +kernel
theorem dX13_witness_13 : decode cX13_witness 13 = .ok (.aload_n 0, 1) := by decide +kernel
theorem dX13_witness_14 : decode cX13_witness 14 = .ok (.iload_n 2, 1) := by decide +kernel
theorem dX13_witness_15 : decode cX13_witness 15 = .ok (.invokevirtual 206, 3) := by decide +kernel
theorem dX13_witness_18 : decode cX13_witness 18 = .ok (.ifCond .ne 5, 3) := by decide +kernel
theorem dX13_witness_21 : decode cX13_witness 21 = .ok (.iconst (-1), 1) := by decide +kernel
theorem dX13_witness_22 : decode cX13_witness 22 = .ok (.ireturn, 1) := by decide +kernel
theorem dX13_witness_23 : decode cX13_witness 23 = .ok (.aload_n 0, 1) := by decide +kernel
theorem dX13_witness_24 : decode cX13_witness 24 = .ok (.getfield 25, 3) := by decide +kernel
theorem dX13_witness_27 : decode cX13_witness 27 = .ok (.bipush 22, 2) := by decide +kernel
theorem dX13_witness_29 : decode cX13_witness 29 = .ok (.iload_n 1, 1) := by decide +kernel
theorem dX13_witness_30 : decode cX13_witness 30 = .ok (.iadd, 1) := by decide +kernel
theorem dX13_witness_31 : decode cX13_witness 31 = .ok (.iaload, 1) := by decide +kernel
theorem dX13_witness_32 : decode cX13_witness 32 = .ok (.istore_n 3, 1) := by decide +kernel
theorem dX13_witness_33 : decode cX13_witness 33 = .ok (.iload_n 3, 1) := by decide +kernel
theorem dX13_witness_34 : decode cX13_witness 34 = .ok (.invokestatic 154, 3) := by decide +kernel
theorem dX13_witness_37 : decode cX13_witness 37 = .ok (.iconst 4, 1) := by decide +kernel
theorem dX13_witness_38 : decode cX13_witness 38 = .ok (.if_icmp .eq 22, 3) := by decide +kernel
theorem dX13_witness_41 : decode cX13_witness 41 = .ok (.iload_n 3, 1) := by decide +kernel
theorem dX13_witness_42 : decode cX13_witness 42 = .ok (.iload_n 2, 1) := by decide +kernel
theorem dX13_witness_43 : decode cX13_witness 43 = .ok (.ishr, 1) := by decide +kernel
theorem dX13_witness_44 : decode cX13_witness 44 = .ok (.iconst 1, 1) := by decide +kernel
theorem dX13_witness_45 : decode cX13_witness 45 = .ok (.iand, 1) := by decide +kernel
theorem dX13_witness_46 : decode cX13_witness 46 = .ok (.iconst 1, 1) := by decide +kernel
theorem dX13_witness_47 : decode cX13_witness 47 = .ok (.if_icmp .eq 13, 3) := by decide +kernel
theorem dX13_witness_50 : decode cX13_witness 50 = .ok (.aload_n 0, 1) := by decide +kernel
theorem dX13_witness_51 : decode cX13_witness 51 = .ok (.iload_n 1, 1) := by decide +kernel
theorem dX13_witness_52 : decode cX13_witness 52 = .ok (.iconst 0, 1) := by decide +kernel
theorem dX13_witness_53 : decode cX13_witness 53 = .ok (.invokevirtual 218, 3) := by decide +kernel
theorem dX13_witness_56 : decode cX13_witness 56 = .ok (.iload_n 2, 1) := by decide +kernel
theorem dX13_witness_57 : decode cX13_witness 57 = .ok (.if_icmp .ne 6, 3) := by decide +kernel
theorem dX13_witness_60 : decode cX13_witness 60 = .ok (.bipush (-2), 2) := by decide +kernel
theorem dX13_witness_62 : decode cX13_witness 62 = .ok (.ireturn, 1) := by decide +kernel
theorem dX13_witness_63 : decode cX13_witness 63 = .ok (.aload_n 0, 1) := by decide +kernel
theorem dX13_witness_64 : decode cX13_witness 64 = .ok (.bipush 22, 2) := by decide +kernel
theorem dX13_witness_66 : decode cX13_witness 66 = .ok (.iload_n 1, 1) := by decide +kernel
theorem dX13_witness_67 : decode cX13_witness 67 = .ok (.iadd, 1) := by decide +kernel
theorem dX13_witness_68 : decode cX13_witness 68 = .ok (.iload_n 3, 1) := by decide +kernel
theorem dX13_witness_69 : decode cX13_witness 69 = .ok (.iconst 1, 1) := by decide +kernel
theorem dX13_witness_70 : decode cX13_witness 70 = .ok (.iload_n 2, 1) := by decide +kernel
theorem dX13_witness_71 : decode cX13_witness 71 = .ok (.ishl, 1) := by decide +kernel
theorem dX13_witness_72 : decode cX13_witness 72 = .ok (.ior, 1) := by decide +kernel
theorem dX13_witness_73 : decode cX13_witness 73 = .ok (.invokevirtual 227, 3) := by decide +kernel
theorem dX13_witness_76 : decode cX13_witness 76 = .ok (.pop, 1) := by decide +kernel
theorem dX13_witness_77 : decode cX13_witness 77 = .ok (.aload_n 0, 1) := by decide +kernel
theorem dX13_witness_78 : decode cX13_witness 78 = .ok (.getfield 25, 3) := by decide +kernel
theorem dX13_witness_81 : decode cX13_witness 81 = .ok (.bipush 22, 2) := by decide +kernel
theorem dX13_witness_83 : decode cX13_witness 83 = .ok (.iload_n 1, 1) := by decide +kernel
theorem dX13_witness_84 : decode cX13_witness 84 = .ok (.iadd, 1) := by decide +kernel
theorem dX13_witness_85 : decode cX13_witness 85 = .ok (.iaload, 1) := by decide +kernel
theorem dX13_witness_86 : decode cX13_witness 86 = .ok (.invokestatic 154, 3) := by decide +kernel
theorem dX13_witness_89 : decode cX13_witness 89 = .ok (.ireturn, 1) := by decide +kernel
theorem dX13_wed_0 : decode cX13_wed 0 = .ok (.aload_n 0, 1) := by decide +kernel
theorem dX13_wed_1 : decode cX13_wed 1 = .ok (.iconst 0, 1) := by decide +kernel
theorem dX13_wed_2 : decode cX13_wed 2 = .ok (.putfield 61, 3) := by decide +kernel
theorem dX13_wed_5 : decode cX13_wed 5 = .ok (.aload_n 0, 1) := by decide +kernel
theorem dX13_wed_6 : decode cX13_wed 6 = .ok (.iload_n 1, 1) := by decide +kernel
theorem dX13_wed_7 : decode cX13_wed 7 = .ok (.invokevirtual 206, 3) := by decide +kernel
theorem dX13_wed_10 : decode cX13_wed 10 = .ok (.ifCond .eq 23, 3) := by decide +kernel
theorem dX13_wed_13 : decode cX13_wed 13 = .ok (.aload_n 0, 1) := by decide +kernel
theorem dX13_wed_14 : decode cX13_wed 14 = .ok (.iload_n 2, 1) := by decide +kernel
theorem dX13_wed_15 : decode cX13_wed 15 = .ok (.invokevirtual 206, 3) := by decide +kernel
theorem dX13_wed_18 : decode cX13_wed 18 = .ok (.ifCond .eq 15, 3) := by decide +kernel
theorem dX13_wed_21 : decode cX13_wed 21 = .ok (.iload_n 1, 1) := by decide +kernel
theorem dX13_wed_22 : decode cX13_wed 22 = .ok (.iload_n 2, 1) := by decide +kernel
theorem dX13_wed_23 : decode cX13_wed 23 = .ok (.if_icmp .eq 10, 3) := by decide +kernel
theorem dX13_wed_26 : decode cX13_wed 26 = .ok (.iload_n 3, 1) := by decide +kernel
theorem dX13_wed_27 : decode cX13_wed 27 = .ok (.invokestatic 230, 3) := by decide +kernel
theorem dX13_wed_30 : decode cX13_wed 30 = .ok (.ifCond .ne 5, 3) := by decide +kernel
theorem dX13_wed_33 : decode cX13_wed 33 = .ok (.iconst (-1), 1) := by decide +kernel
theorem dX13_wed_34 : decode cX13_wed 34 = .ok (.ireturn, 1) := by decide +kernel
theorem dX13_wed_35 : decode cX13_wed 35 = .ok (.aload_n 0, 1) := by decide +kernel
theorem dX13_wed_36 : decode cX13_wed 36 = .ok (.getfield 25, 3) := by decide +kernel
theorem dX13_wed_39 : decode cX13_wed 39 = .ok (.bipush 64, 2) := by decide +kernel
theorem dX13_wed_41 : decode cX13_wed 41 = .ok (.iaload, 1) := by decide +kernel
theorem dX13_wed_42 : decode cX13_wed 42 = .ok (.bipush 6, 2) := by decide +kernel
theorem dX13_wed_44 : decode cX13_wed 44 = .ok (.if_icmp .ne 6, 3) := by decide +kernel
theorem dX13_wed_47 : decode cX13_wed 47 = .ok (.bipush (-2), 2) := by decide +kernel
theorem dX13_wed_49 : decode cX13_wed 49 = .ok (.ireturn, 1) := by decide +kernel
theorem dX13_wed_50 : decode cX13_wed 50 = .ok (.aload_n 0, 1) := by decide +kernel
theorem dX13_wed_51 : decode cX13_wed 51 = .ok (.invokevirtual 224, 3) := by decide +kernel
theorem dX13_wed_54 : decode cX13_wed 54 = .ok (.aload_n 0, 1) := by decide +kernel
theorem dX13_wed_55 : decode cX13_wed 55 = .ok (.getfield 25, 3) := by decide +kernel
theorem dX13_wed_58 : decode cX13_wed 58 = .ok (.iload_n 1, 1) := by decide +kernel
theorem dX13_wed_59 : decode cX13_wed 59 = .ok (.iload_n 2, 1) := by decide +kernel
theorem dX13_wed_60 : decode cX13_wed 60 = .ok (.iload_n 3, 1) := by decide +kernel
theorem dX13_wed_61 : decode cX13_wed 61 = .ok (.invokestatic 159, 3) := by decide +kernel
theorem dX13_wed_64 : decode cX13_wed 64 = .ok (.aload_n 0, 1) := by decide +kernel
theorem dX13_wed_65 : decode cX13_wed 65 = .ok (.getfield 25, 3) := by decide +kernel
theorem dX13_wed_68 : decode cX13_wed 68 = .ok (.bipush 64, 2) := by decide +kernel
theorem dX13_wed_70 : decode cX13_wed 70 = .ok (.iaload, 1) := by decide +kernel
theorem dX13_wed_71 : decode cX13_wed 71 = .ok (.ireturn, 1) := by decide +kernel
theorem dX13_dies_0 : decode cX13_dies 0 = .ok (.aload_n 0, 1) := by decide +kernel
theorem dX13_dies_1 : decode cX13_dies 1 = .ok (.iconst 0, 1) := by decide +kernel
theorem dX13_dies_2 : decode cX13_dies 2 = .ok (.putfield 61, 3) := by decide +kernel
theorem dX13_dies_5 : decode cX13_dies 5 = .ok (.aload_n 0, 1) := by decide +kernel
theorem dX13_dies_6 : decode cX13_dies 6 = .ok (.iload_n 1, 1) := by decide +kernel
theorem dX13_dies_7 : decode cX13_dies 7 = .ok (.invokevirtual 206, 3) := by decide +kernel
theorem dX13_dies_10 : decode cX13_dies 10 = .ok (.ifCond .eq 40, 3) := by decide +kernel
theorem dX13_dies_13 : decode cX13_dies 13 = .ok (.iload_n 2, 1) := by decide +kernel
theorem dX13_dies_14 : decode cX13_dies 14 = .ok (.iconst (-1), 1) := by decide +kernel
theorem dX13_dies_15 : decode cX13_dies 15 = .ok (.if_icmp .eq 10, 3) := by decide +kernel
theorem dX13_dies_18 : decode cX13_dies 18 = .ok (.iload_n 2, 1) := by decide +kernel
theorem dX13_dies_19 : decode cX13_dies 19 = .ok (.invokestatic 230, 3) := by decide +kernel
theorem dX13_dies_22 : decode cX13_dies 22 = .ok (.ifCond .eq 28, 3) := by decide +kernel
theorem dX13_dies_25 : decode cX13_dies 25 = .ok (.aload_n 0, 1) := by decide +kernel
theorem dX13_dies_26 : decode cX13_dies 26 = .ok (.iconst 0, 1) := by decide +kernel
theorem dX13_dies_27 : decode cX13_dies 27 = .ok (.iload_n 1, 1) := by decide +kernel
theorem dX13_dies_28 : decode cX13_dies 28 = .ok (.iadd, 1) := by decide +kernel
theorem dX13_dies_29 : decode cX13_dies 29 = .ok (.iload_n 2, 1) := by decide +kernel
theorem dX13_dies_30 : decode cX13_dies 30 = .ok (.iconst (-1), 1) := by decide +kernel
theorem dX13_dies_31 : decode cX13_dies 31 = .ok (.if_icmp .ne 8, 3) := by decide +kernel
theorem dX13_dies_34 : decode cX13_dies 34 = .ok (.bipush (-2), 2) := by decide +kernel
theorem dX13_dies_36 : decode cX13_dies 36 = .ok (.goto 4, 3) := by decide +kernel
theorem dX13_dies_39 : decode cX13_dies 39 = .ok (.iload_n 2, 1) := by decide +kernel
theorem dX13_dies_40 : decode cX13_dies 40 = .ok (.invokevirtual 227, 3) := by decide +kernel
theorem dX13_dies_43 : decode cX13_dies 43 = .ok (.ifCond .eq 7, 3) := by decide +kernel
theorem dX13_dies_46 : decode cX13_dies 46 = .ok (.iconst 1, 1) := by decide +kernel
theorem dX13_dies_47 : decode cX13_dies 47 = .ok (.goto 4, 3) := by decide +kernel
theorem dX13_dies_50 : decode cX13_dies 50 = .ok (.iconst 0, 1) := by decide +kernel
theorem dX13_dies_51 : decode cX13_dies 51 = .ok (.ireturn, 1) := by decide +kernel
theorem dX13_takeBack_0 : decode cX13_takeBack 0 = .ok (.aload_n 0, 1) := by decide +kernel
theorem dX13_takeBack_1 : decode cX13_takeBack 1 = .ok (.iconst 0, 1) := by decide +kernel
theorem dX13_takeBack_2 : decode cX13_takeBack 2 = .ok (.putfield 61, 3) := by decide +kernel
theorem dX13_takeBack_5 : decode cX13_takeBack 5 = .ok (.aload_n 0, 1) := by decide +kernel
theorem dX13_takeBack_6 : decode cX13_takeBack 6 = .ok (.iload_n 1, 1) := by decide +kernel
theorem dX13_takeBack_7 : decode cX13_takeBack 7 = .ok (.invokevirtual 215, 3) := by decide +kernel
theorem dX13_takeBack_10 : decode cX13_takeBack 10 = .ok (.ifCond .eq 19, 3) := by decide +kernel
theorem dX13_takeBack_13 : decode cX13_takeBack 13 = .ok (.aload_n 0, 1) := by decide +kernel
theorem dX13_takeBack_14 : decode cX13_takeBack 14 = .ok (.bipush 34, 2) := by decide +kernel
theorem dX13_takeBack_16 : decode cX13_takeBack 16 = .ok (.iload_n 1, 1) := by decide +kernel
theorem dX13_takeBack_17 : decode cX13_takeBack 17 = .ok (.iadd, 1) := by decide +kernel
theorem dX13_takeBack_18 : decode cX13_takeBack 18 = .ok (.iconst 1, 1) := by decide +kernel
theorem dX13_takeBack_19 : decode cX13_takeBack 19 = .ok (.invokevirtual 227, 3) := by decide +kernel
theorem dX13_takeBack_22 : decode cX13_takeBack 22 = .ok (.ifCond .eq 7, 3) := by decide +kernel
theorem dX13_takeBack_25 : decode cX13_takeBack 25 = .ok (.iconst 1, 1) := by decide +kernel
theorem dX13_takeBack_26 : decode cX13_takeBack 26 = .ok (.goto 4, 3) := by decide +kernel
theorem dX13_takeBack_29 : decode cX13_takeBack 29 = .ok (.iconst 0, 1) := by decide +kernel
theorem dX13_takeBack_30 : decode cX13_takeBack 30 = .ok (.ireturn, 1) := by decide +kernel
theorem dX13_undo_0 : decode cX13_undo 0 = .ok (.aload_n 0, 1) := by decide +kernel
theorem dX13_undo_1 : decode cX13_undo 1 = .ok (.iconst 0, 1) := by decide +kernel
theorem dX13_undo_2 : decode cX13_undo 2 = .ok (.putfield 61, 3) := by decide +kernel
theorem dX13_undo_5 : decode cX13_undo 5 = .ok (.aload_n 0, 1) := by decide +kernel
theorem dX13_undo_6 : decode cX13_undo 6 = .ok (.getfield 194, 3) := by decide +kernel
theorem dX13_undo_9 : decode cX13_undo 9 = .ok (.ifCond .ne 5, 3) := by decide +kernel
theorem dX13_undo_12 : decode cX13_undo 12 = .ok (.iconst (-1), 1) := by decide +kernel
theorem dX13_undo_13 : decode cX13_undo 13 = .ok (.ireturn, 1) := by decide +kernel
theorem dX13_undo_14 : decode cX13_undo 14 = .ok (.aload_n 0, 1) := by decide +kernel
theorem dX13_undo_15 : decode cX13_undo 15 = .ok (.dup, 1) := by decide +kernel
theorem dX13_undo_16 : decode cX13_undo 16 = .ok (.getfield 194, 3) := by decide +kernel
theorem dX13_undo_19 : decode cX13_undo 19 = .ok (.iconst 1, 1) := by decide +kernel
theorem dX13_undo_20 : decode cX13_undo 20 = .ok (.isub, 1) := by decide +kernel
theorem dX13_undo_21 : decode cX13_undo 21 = .ok (.putfield 194, 3) := by decide +kernel
theorem dX13_undo_24 : decode cX13_undo 24 = .ok (.iconst 0, 1) := by decide +kernel
theorem dX13_undo_25 : decode cX13_undo 25 = .ok (.istore_n 1, 1) := by decide +kernel
theorem dX13_undo_26 : decode cX13_undo 26 = .ok (.iload_n 1, 1) := by decide +kernel
theorem dX13_undo_27 : decode cX13_undo 27 = .ok (.bipush 65, 2) := by decide +kernel
theorem dX13_undo_29 : decode cX13_undo 29 = .ok (.if_icmp .ge 29, 3) := by decide +kernel
theorem dX13_undo_32 : decode cX13_undo 32 = .ok (.aload_n 0, 1) := by decide +kernel
theorem dX13_undo_33 : decode cX13_undo 33 = .ok (.getfield 25, 3) := by decide +kernel
theorem dX13_undo_36 : decode cX13_undo 36 = .ok (.iload_n 1, 1) := by decide +kernel
theorem dX13_undo_37 : decode cX13_undo 37 = .ok (.aload_n 0, 1) := by decide +kernel
theorem dX13_undo_38 : decode cX13_undo 38 = .ok (.getfield 31, 3) := by decide +kernel
theorem dX13_undo_41 : decode cX13_undo 41 = .ok (.bipush 65, 2) := by decide +kernel
theorem dX13_undo_43 : decode cX13_undo 43 = .ok (.aload_n 0, 1) := by decide +kernel
theorem dX13_undo_44 : decode cX13_undo 44 = .ok (.getfield 194, 3) := by decide +kernel
theorem dX13_undo_47 : decode cX13_undo 47 = .ok (.imul, 1) := by decide +kernel
theorem dX13_undo_48 : decode cX13_undo 48 = .ok (.iload_n 1, 1) := by decide +kernel
theorem dX13_undo_49 : decode cX13_undo 49 = .ok (.iadd, 1) := by decide +kernel
