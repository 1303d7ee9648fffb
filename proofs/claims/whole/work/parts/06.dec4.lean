theorem dX12_inImage_96 : decode cX12_inImage 96 = .ok (.iload_n 1, 1) := by decide +kernel
theorem dX12_inImage_97 : decode cX12_inImage 97 = .ok (.iload 7, 2) := by decide +kernel
theorem dX12_inImage_99 : decode cX12_inImage 99 = .ok (.isub, 1) := by decide +kernel
theorem dX12_inImage_100 : decode cX12_inImage 100 = .ok (.goto 5, 3) := by decide +kernel
theorem dX12_inImage_103 : decode cX12_inImage 103 = .ok (.iload 7, 2) := by decide +kernel
theorem dX12_inImage_105 : decode cX12_inImage 105 = .ok (.ireturn, 1) := by decide +kernel
theorem dX12_imageOn_0 : decode cX12_imageOn 0 = .ok (.aload_n 0, 1) := by decide +kernel
theorem dX12_imageOn_1 : decode cX12_imageOn 1 = .ok (.iload_n 1, 1) := by decide +kernel
theorem dX12_imageOn_2 : decode cX12_imageOn 2 = .ok (.bipush 8, 2) := by decide +kernel
theorem dX12_imageOn_4 : decode cX12_imageOn 4 = .ok (.invokevirtual 91, 3) := by decide +kernel
theorem dX12_imageOn_7 : decode cX12_imageOn 7 = .ok (.aload_n 0, 1) := by decide +kernel
theorem dX12_imageOn_8 : decode cX12_imageOn 8 = .ok (.iload_n 1, 1) := by decide +kernel
theorem dX12_imageOn_9 : decode cX12_imageOn 9 = .ok (.iconst 0, 1) := by decide +kernel
theorem dX12_imageOn_10 : decode cX12_imageOn 10 = .ok (.invokevirtual 256, 3) := by decide +kernel
theorem dX12_imageOn_13 : decode cX12_imageOn 13 = .ok (.aload_n 0, 1) := by decide +kernel
theorem dX12_imageOn_14 : decode cX12_imageOn 14 = .ok (.iload_n 1, 1) := by decide +kernel
theorem dX12_imageOn_15 : decode cX12_imageOn 15 = .ok (.iconst 1, 1) := by decide +kernel
theorem dX12_imageOn_16 : decode cX12_imageOn 16 = .ok (.invokevirtual 256, 3) := by decide +kernel
theorem dX12_imageOn_19 : decode cX12_imageOn 19 = .ok (.iload_n 2, 1) := by decide +kernel
theorem dX12_imageOn_20 : decode cX12_imageOn 20 = .ok (.aload_n 0, 1) := by decide +kernel
theorem dX12_imageOn_21 : decode cX12_imageOn 21 = .ok (.iload_n 1, 1) := by decide +kernel
theorem dX12_imageOn_22 : decode cX12_imageOn 22 = .ok (.bipush 9, 2) := by decide +kernel
theorem dX12_imageOn_24 : decode cX12_imageOn 24 = .ok (.invokevirtual 91, 3) := by decide +kernel
theorem dX12_imageOn_27 : decode cX12_imageOn 27 = .ok (.isub, 1) := by decide +kernel
theorem dX12_imageOn_28 : decode cX12_imageOn 28 = .ok (.iload_n 3, 1) := by decide +kernel
theorem dX12_imageOn_29 : decode cX12_imageOn 29 = .ok (.aload_n 0, 1) := by decide +kernel
theorem dX12_imageOn_30 : decode cX12_imageOn 30 = .ok (.iload_n 1, 1) := by decide +kernel
theorem dX12_imageOn_31 : decode cX12_imageOn 31 = .ok (.bipush 10, 2) := by decide +kernel
theorem dX12_imageOn_33 : decode cX12_imageOn 33 = .ok (.invokevirtual 91, 3) := by decide +kernel
theorem dX12_imageOn_36 : decode cX12_imageOn 36 = .ok (.isub, 1) := by decide +kernel
theorem dX12_imageOn_37 : decode cX12_imageOn 37 = .ok (.iload 4, 2) := by decide +kernel
theorem dX12_imageOn_39 : decode cX12_imageOn 39 = .ok (.invokestatic 266, 3) := by decide +kernel
theorem dX12_imageOn_42 : decode cX12_imageOn 42 = .ok (.ireturn, 1) := by decide +kernel
theorem dX12_along_0 : decode cX12_along 0 = .ok (.iconst 3, 1) := by decide +kernel
theorem dX12_along_1 : decode cX12_along 1 = .ok (.iload_n 1, 1) := by decide +kernel
theorem dX12_along_2 : decode cX12_along 2 = .ok (.imul, 1) := by decide +kernel
theorem dX12_along_3 : decode cX12_along 3 = .ok (.iload_n 3, 1) := by decide +kernel
theorem dX12_along_4 : decode cX12_along 4 = .ok (.iadd, 1) := by decide +kernel
theorem dX12_along_5 : decode cX12_along 5 = .ok (.istore 6, 2) := by decide +kernel
theorem dX12_along_7 : decode cX12_along 7 = .ok (.iload 4, 2) := by decide +kernel
theorem dX12_along_9 : decode cX12_along 9 = .ok (.aload_n 0, 1) := by decide +kernel
theorem dX12_along_10 : decode cX12_along 10 = .ok (.getfield 47, 3) := by decide +kernel
theorem dX12_along_13 : decode cX12_along 13 = .ok (.iload 6, 2) := by decide +kernel
theorem dX12_along_15 : decode cX12_along 15 = .ok (.iaload, 1) := by decide +kernel
theorem dX12_along_16 : decode cX12_along 16 = .ok (.isub, 1) := by decide +kernel
theorem dX12_along_17 : decode cX12_along 17 = .ok (.iload_n 2, 1) := by decide +kernel
theorem dX12_along_18 : decode cX12_along 18 = .ok (.iconst 2, 1) := by decide +kernel
theorem dX12_along_19 : decode cX12_along 19 = .ok (.irem, 1) := by decide +kernel
theorem dX12_along_20 : decode cX12_along 20 = .ok (.ifCond .ne 13, 3) := by decide +kernel
theorem dX12_along_23 : decode cX12_along 23 = .ok (.aload_n 0, 1) := by decide +kernel
theorem dX12_along_24 : decode cX12_along 24 = .ok (.getfield 50, 3) := by decide +kernel
theorem dX12_along_27 : decode cX12_along 27 = .ok (.iload 6, 2) := by decide +kernel
theorem dX12_along_29 : decode cX12_along 29 = .ok (.iaload, 1) := by decide +kernel
theorem dX12_along_30 : decode cX12_along 30 = .ok (.goto 10, 3) := by decide +kernel
theorem dX12_along_33 : decode cX12_along 33 = .ok (.aload_n 0, 1) := by decide +kernel
theorem dX12_along_34 : decode cX12_along 34 = .ok (.getfield 53, 3) := by decide +kernel
theorem dX12_along_37 : decode cX12_along 37 = .ok (.iload 6, 2) := by decide +kernel
theorem dX12_along_39 : decode cX12_along 39 = .ok (.iaload, 1) := by decide +kernel
theorem dX12_along_40 : decode cX12_along 40 = .ok (.imul, 1) := by decide +kernel
theorem dX12_along_41 : decode cX12_along 41 = .ok (.istore 7, 2) := by decide +kernel
theorem dX12_along_43 : decode cX12_along 43 = .ok (.iload_n 2, 1) := by decide +kernel
theorem dX12_along_44 : decode cX12_along 44 = .ok (.iconst 2, 1) := by decide +kernel
theorem dX12_along_45 : decode cX12_along 45 = .ok (.irem, 1) := by decide +kernel
theorem dX12_along_46 : decode cX12_along 46 = .ok (.ifCond .ne 8, 3) := by decide +kernel
theorem dX12_along_49 : decode cX12_along 49 = .ok (.iload 7, 2) := by decide +kernel
theorem dX12_along_51 : decode cX12_along 51 = .ok (.goto 18, 3) := by decide +kernel
theorem dX12_along_54 : decode cX12_along 54 = .ok (.iload_n 2, 1) := by decide +kernel
theorem dX12_along_55 : decode cX12_along 55 = .ok (.iconst 1, 1) := by decide +kernel
theorem dX12_along_56 : decode cX12_along 56 = .ok (.if_icmp .ne 12, 3) := by decide +kernel
theorem dX12_along_59 : decode cX12_along 59 = .ok (.aload_n 0, 1) := by decide +kernel
theorem dX12_along_60 : decode cX12_along 60 = .ok (.getfield 32, 3) := by decide +kernel
theorem dX12_along_63 : decode cX12_along 63 = .ok (.iload_n 1, 1) := by decide +kernel
theorem dX12_along_64 : decode cX12_along 64 = .ok (.iaload, 1) := by decide +kernel
theorem dX12_along_65 : decode cX12_along 65 = .ok (.goto 4, 3) := by decide +kernel
theorem dX12_along_68 : decode cX12_along 68 = .ok (.iconst 0, 1) := by decide +kernel
theorem dX12_along_69 : decode cX12_along 69 = .ok (.istore 8, 2) := by decide +kernel
theorem dX12_along_71 : decode cX12_along 71 = .ok (.iload_n 2, 1) := by decide +kernel
theorem dX12_along_72 : decode cX12_along 72 = .ok (.iconst 2, 1) := by decide +kernel
theorem dX12_along_73 : decode cX12_along 73 = .ok (.irem, 1) := by decide +kernel
theorem dX12_along_74 : decode cX12_along 74 = .ok (.iconst 1, 1) := by decide +kernel
theorem dX12_along_75 : decode cX12_along 75 = .ok (.if_icmp .ne 8, 3) := by decide +kernel
theorem dX12_along_78 : decode cX12_along 78 = .ok (.iload 7, 2) := by decide +kernel
theorem dX12_along_80 : decode cX12_along 80 = .ok (.goto 18, 3) := by decide +kernel
theorem dX12_along_83 : decode cX12_along 83 = .ok (.iload_n 2, 1) := by decide +kernel
theorem dX12_along_84 : decode cX12_along 84 = .ok (.iconst 2, 1) := by decide +kernel
theorem dX12_along_85 : decode cX12_along 85 = .ok (.if_icmp .ne 12, 3) := by decide +kernel
theorem dX12_along_88 : decode cX12_along 88 = .ok (.aload_n 0, 1) := by decide +kernel
theorem dX12_along_89 : decode cX12_along 89 = .ok (.getfield 35, 3) := by decide +kernel
theorem dX12_along_92 : decode cX12_along 92 = .ok (.iload_n 1, 1) := by decide +kernel
theorem dX12_along_93 : decode cX12_along 93 = .ok (.iaload, 1) := by decide +kernel
theorem dX12_along_94 : decode cX12_along 94 = .ok (.goto 4, 3) := by decide +kernel
theorem dX12_along_97 : decode cX12_along 97 = .ok (.iconst 0, 1) := by decide +kernel
theorem dX12_along_98 : decode cX12_along 98 = .ok (.istore 9, 2) := by decide +kernel
theorem dX12_along_100 : decode cX12_along 100 = .ok (.iload 5, 2) := by decide +kernel
theorem dX12_along_102 : decode cX12_along 102 = .ok (.ifCond .eq 8, 3) := by decide +kernel
theorem dX12_along_105 : decode cX12_along 105 = .ok (.iload 9, 2) := by decide +kernel
theorem dX12_along_107 : decode cX12_along 107 = .ok (.goto 5, 3) := by decide +kernel
theorem dX12_along_110 : decode cX12_along 110 = .ok (.iload 8, 2) := by decide +kernel
theorem dX12_along_112 : decode cX12_along 112 = .ok (.ireturn, 1) := by decide +kernel
theorem dX12_outward_0 : decode cX12_outward 0 = .ok (.iload_n 1, 1) := by decide +kernel
theorem dX12_outward_1 : decode cX12_outward 1 = .ok (.ifCond .eq 24, 3) := by decide +kernel
theorem dX12_outward_4 : decode cX12_outward 4 = .ok (.iload_n 0, 1) := by decide +kernel
theorem dX12_outward_5 : decode cX12_outward 5 = .ok (.ifCond .ne 7, 3) := by decide +kernel
theorem dX12_outward_8 : decode cX12_outward 8 = .ok (.iconst (-1), 1) := by decide +kernel
theorem dX12_outward_9 : decode cX12_outward 9 = .ok (.goto 35, 3) := by decide +kernel
theorem dX12_outward_12 : decode cX12_outward 12 = .ok (.iload_n 0, 1) := by decide +kernel
theorem dX12_outward_13 : decode cX12_outward 13 = .ok (.iconst 2, 1) := by decide +kernel
theorem dX12_outward_14 : decode cX12_outward 14 = .ok (.if_icmp .ne 7, 3) := by decide +kernel
theorem dX12_outward_17 : decode cX12_outward 17 = .ok (.iconst 1, 1) := by decide +kernel
theorem dX12_outward_18 : decode cX12_outward 18 = .ok (.goto 26, 3) := by decide +kernel
theorem dX12_outward_21 : decode cX12_outward 21 = .ok (.iconst 0, 1) := by decide +kernel
theorem dX12_outward_22 : decode cX12_outward 22 = .ok (.goto 22, 3) := by decide +kernel
theorem dX12_outward_25 : decode cX12_outward 25 = .ok (.iload_n 0, 1) := by decide +kernel
theorem dX12_outward_26 : decode cX12_outward 26 = .ok (.iconst 1, 1) := by decide +kernel
theorem dX12_outward_27 : decode cX12_outward 27 = .ok (.if_icmp .ne 7, 3) := by decide +kernel
theorem dX12_outward_30 : decode cX12_outward 30 = .ok (.iconst 1, 1) := by decide +kernel
theorem dX12_outward_31 : decode cX12_outward 31 = .ok (.goto 13, 3) := by decide +kernel
theorem dX12_outward_34 : decode cX12_outward 34 = .ok (.iload_n 0, 1) := by decide +kernel
theorem dX12_outward_35 : decode cX12_outward 35 = .ok (.iconst 3, 1) := by decide +kernel
theorem dX12_outward_36 : decode cX12_outward 36 = .ok (.if_icmp .ne 7, 3) := by decide +kernel
theorem dX12_outward_39 : decode cX12_outward 39 = .ok (.iconst (-1), 1) := by decide +kernel
theorem dX12_outward_40 : decode cX12_outward 40 = .ok (.goto 4, 3) := by decide +kernel
theorem dX12_outward_43 : decode cX12_outward 43 = .ok (.iconst 0, 1) := by decide +kernel
theorem dX12_outward_44 : decode cX12_outward 44 = .ok (.ireturn, 1) := by decide +kernel
theorem dX12_step_0 : decode cX12_step 0 = .ok (.aload_n 0, 1) := by decide +kernel
theorem dX12_step_1 : decode cX12_step 1 = .ok (.iload_n 1, 1) := by decide +kernel
theorem dX12_step_2 : decode cX12_step 2 = .ok (.iload_n 3, 1) := by decide +kernel
theorem dX12_step_3 : decode cX12_step 3 = .ok (.iload_n 2, 1) := by decide +kernel
theorem dX12_step_4 : decode cX12_step 4 = .ok (.iconst 0, 1) := by decide +kernel
theorem dX12_step_5 : decode cX12_step 5 = .ok (.invokestatic 270, 3) := by decide +kernel
theorem dX12_step_8 : decode cX12_step 8 = .ok (.imul, 1) := by decide +kernel
theorem dX12_step_9 : decode cX12_step 9 = .ok (.iload_n 3, 1) := by decide +kernel
theorem dX12_step_10 : decode cX12_step 10 = .ok (.iload_n 2, 1) := by decide +kernel
theorem dX12_step_11 : decode cX12_step 11 = .ok (.iconst 1, 1) := by decide +kernel
theorem dX12_step_12 : decode cX12_step 12 = .ok (.invokestatic 270, 3) := by decide +kernel
theorem dX12_step_15 : decode cX12_step 15 = .ok (.imul, 1) := by decide +kernel
theorem dX12_step_16 : decode cX12_step 16 = .ok (.iload 4, 2) := by decide +kernel
theorem dX12_step_18 : decode cX12_step 18 = .ok (.invokevirtual 273, 3) := by decide +kernel
theorem dX12_step_21 : decode cX12_step 21 = .ok (.aload_n 0, 1) := by decide +kernel
theorem dX12_step_22 : decode cX12_step 22 = .ok (.iload_n 1, 1) := by decide +kernel
theorem dX12_step_23 : decode cX12_step 23 = .ok (.iconst 0, 1) := by decide +kernel
theorem dX12_step_24 : decode cX12_step 24 = .ok (.iconst 0, 1) := by decide +kernel
theorem dX12_step_25 : decode cX12_step 25 = .ok (.iload 4, 2) := by decide +kernel
theorem dX12_step_27 : decode cX12_step 27 = .ok (.invokevirtual 273, 3) := by decide +kernel
theorem dX12_step_30 : decode cX12_step 30 = .ok (.isub, 1) := by decide +kernel
theorem dX12_step_31 : decode cX12_step 31 = .ok (.ireturn, 1) := by decide +kernel
theorem dX12_atEnd_0 : decode cX12_atEnd 0 = .ok (.aload_n 0, 1) := by decide +kernel
theorem dX12_atEnd_1 : decode cX12_atEnd 1 = .ok (.iload_n 1, 1) := by decide +kernel
theorem dX12_atEnd_2 : decode cX12_atEnd 2 = .ok (.aload_n 0, 1) := by decide +kernel
theorem dX12_atEnd_3 : decode cX12_atEnd 3 = .ok (.iload_n 1, 1) := by decide +kernel
theorem dX12_atEnd_4 : decode cX12_atEnd 4 = .ok (.iload_n 2, 1) := by decide +kernel
theorem dX12_atEnd_5 : decode cX12_atEnd 5 = .ok (.iload_n 3, 1) := by decide +kernel
theorem dX12_atEnd_6 : decode cX12_atEnd 6 = .ok (.iload 4, 2) := by decide +kernel
theorem dX12_atEnd_8 : decode cX12_atEnd 8 = .ok (.iconst 0, 1) := by decide +kernel
theorem dX12_atEnd_9 : decode cX12_atEnd 9 = .ok (.invokevirtual 277, 3) := by decide +kernel
theorem dX12_atEnd_12 : decode cX12_atEnd 12 = .ok (.aload_n 0, 1) := by decide +kernel
theorem dX12_atEnd_13 : decode cX12_atEnd 13 = .ok (.iload_n 1, 1) := by decide +kernel
theorem dX12_atEnd_14 : decode cX12_atEnd 14 = .ok (.iload_n 2, 1) := by decide +kernel
theorem dX12_atEnd_15 : decode cX12_atEnd 15 = .ok (.iload_n 3, 1) := by decide +kernel
theorem dX12_atEnd_16 : decode cX12_atEnd 16 = .ok (.iload 4, 2) := by decide +kernel
theorem dX12_atEnd_18 : decode cX12_atEnd 18 = .ok (.iconst 1, 1) := by decide +kernel
theorem dX12_atEnd_19 : decode cX12_atEnd 19 = .ok (.invokevirtual 277, 3) := by decide +kernel
theorem dX12_atEnd_22 : decode cX12_atEnd 22 = .ok (.iload 5, 2) := by decide +kernel
theorem dX12_atEnd_24 : decode cX12_atEnd 24 = .ok (.invokevirtual 273, 3) := by decide +kernel
theorem dX12_atEnd_27 : decode cX12_atEnd 27 = .ok (.ireturn, 1) := by decide +kernel
theorem dX12_mismatch_0 : decode cX12_mismatch 0 = .ok (.bipush 9, 2) := by decide +kernel
theorem dX12_mismatch_2 : decode cX12_mismatch 2 = .ok (.iload_n 1, 1) := by decide +kernel
theorem dX12_mismatch_3 : decode cX12_mismatch 3 = .ok (.imul, 1) := by decide +kernel
theorem dX12_mismatch_4 : decode cX12_mismatch 4 = .ok (.istore_n 2, 1) := by decide +kernel
theorem dX12_mismatch_5 : decode cX12_mismatch 5 = .ok (.aload_n 0, 1) := by decide +kernel
theorem dX12_mismatch_6 : decode cX12_mismatch 6 = .ok (.getfield 68, 3) := by decide +kernel
theorem dX12_mismatch_9 : decode cX12_mismatch 9 = .ok (.iload_n 2, 1) := by decide +kernel
theorem dX12_mismatch_10 : decode cX12_mismatch 10 = .ok (.iaload, 1) := by decide +kernel
theorem dX12_mismatch_11 : decode cX12_mismatch 11 = .ok (.istore_n 3, 1) := by decide +kernel
theorem dX12_mismatch_12 : decode cX12_mismatch 12 = .ok (.aload_n 0, 1) := by decide +kernel
theorem dX12_mismatch_13 : decode cX12_mismatch 13 = .ok (.getfield 68, 3) := by decide +kernel
theorem dX12_mismatch_16 : decode cX12_mismatch 16 = .ok (.iload_n 2, 1) := by decide +kernel
theorem dX12_mismatch_17 : decode cX12_mismatch 17 = .ok (.iconst 1, 1) := by decide +kernel
theorem dX12_mismatch_18 : decode cX12_mismatch 18 = .ok (.iadd, 1) := by decide +kernel
theorem dX12_mismatch_19 : decode cX12_mismatch 19 = .ok (.iaload, 1) := by decide +kernel
theorem dX12_mismatch_20 : decode cX12_mismatch 20 = .ok (.istore 4, 2) := by decide +kernel
theorem dX12_mismatch_22 : decode cX12_mismatch 22 = .ok (.aload_n 0, 1) := by decide +kernel
theorem dX12_mismatch_23 : decode cX12_mismatch 23 = .ok (.getfield 68, 3) := by decide +kernel
theorem dX12_mismatch_26 : decode cX12_mismatch 26 = .ok (.iload_n 2, 1) := by decide +kernel
theorem dX12_mismatch_27 : decode cX12_mismatch 27 = .ok (.iconst 2, 1) := by decide +kernel
theorem dX12_mismatch_28 : decode cX12_mismatch 28 = .ok (.iadd, 1) := by decide +kernel
theorem dX12_mismatch_29 : decode cX12_mismatch 29 = .ok (.iaload, 1) := by decide +kernel
theorem dX12_mismatch_30 : decode cX12_mismatch 30 = .ok (.istore 5, 2) := by decide +kernel
theorem dX12_mismatch_32 : decode cX12_mismatch 32 = .ok (.aload_n 0, 1) := by decide +kernel
theorem dX12_mismatch_33 : decode cX12_mismatch 33 = .ok (.getfield 68, 3) := by decide +kernel
theorem dX12_mismatch_36 : decode cX12_mismatch 36 = .ok (.iload_n 2, 1) := by decide +kernel
theorem dX12_mismatch_37 : decode cX12_mismatch 37 = .ok (.iconst 3, 1) := by decide +kernel
theorem dX12_mismatch_38 : decode cX12_mismatch 38 = .ok (.iadd, 1) := by decide +kernel
theorem dX12_mismatch_39 : decode cX12_mismatch 39 = .ok (.iaload, 1) := by decide +kernel
theorem dX12_mismatch_40 : decode cX12_mismatch 40 = .ok (.istore 6, 2) := by decide +kernel
theorem dX12_mismatch_42 : decode cX12_mismatch 42 = .ok (.aload_n 0, 1) := by decide +kernel
theorem dX12_mismatch_43 : decode cX12_mismatch 43 = .ok (.getfield 68, 3) := by decide +kernel
theorem dX12_mismatch_46 : decode cX12_mismatch 46 = .ok (.iload_n 2, 1) := by decide +kernel
theorem dX12_mismatch_47 : decode cX12_mismatch 47 = .ok (.iconst 4, 1) := by decide +kernel
theorem dX12_mismatch_48 : decode cX12_mismatch 48 = .ok (.iadd, 1) := by decide +kernel
theorem dX12_mismatch_49 : decode cX12_mismatch 49 = .ok (.iaload, 1) := by decide +kernel
theorem dX12_mismatch_50 : decode cX12_mismatch 50 = .ok (.istore 7, 2) := by decide +kernel
theorem dX12_mismatch_52 : decode cX12_mismatch 52 = .ok (.aload_n 0, 1) := by decide +kernel
theorem dX12_mismatch_53 : decode cX12_mismatch 53 = .ok (.iload_n 3, 1) := by decide +kernel
theorem dX12_mismatch_54 : decode cX12_mismatch 54 = .ok (.iload 4, 2) := by decide +kernel
theorem dX12_mismatch_56 : decode cX12_mismatch 56 = .ok (.invokevirtual 281, 3) := by decide +kernel
theorem dX12_mismatch_59 : decode cX12_mismatch 59 = .ok (.bipush (-9), 2) := by decide +kernel
theorem dX12_mismatch_61 : decode cX12_mismatch 61 = .ok (.if_icmp .eq 34, 3) := by decide +kernel
theorem dX12_mismatch_64 : decode cX12_mismatch 64 = .ok (.aload_n 0, 1) := by decide +kernel
theorem dX12_mismatch_65 : decode cX12_mismatch 65 = .ok (.iload 5, 2) := by decide +kernel
theorem dX12_mismatch_67 : decode cX12_mismatch 67 = .ok (.iload 6, 2) := by decide +kernel
theorem dX12_mismatch_69 : decode cX12_mismatch 69 = .ok (.invokevirtual 281, 3) := by decide +kernel
theorem dX12_mismatch_72 : decode cX12_mismatch 72 = .ok (.bipush (-9), 2) := by decide +kernel
theorem dX12_mismatch_74 : decode cX12_mismatch 74 = .ok (.if_icmp .eq 21, 3) := by decide +kernel
theorem dX12_mismatch_77 : decode cX12_mismatch 77 = .ok (.aload_n 0, 1) := by decide +kernel
theorem dX12_mismatch_78 : decode cX12_mismatch 78 = .ok (.iload_n 3, 1) := by decide +kernel
theorem dX12_mismatch_79 : decode cX12_mismatch 79 = .ok (.bipush 7, 2) := by decide +kernel
theorem dX12_mismatch_81 : decode cX12_mismatch 81 = .ok (.invokevirtual 91, 3) := by decide +kernel
theorem dX12_mismatch_84 : decode cX12_mismatch 84 = .ok (.aload_n 0, 1) := by decide +kernel
theorem dX12_mismatch_85 : decode cX12_mismatch 85 = .ok (.iload 5, 2) := by decide +kernel
theorem dX12_mismatch_87 : decode cX12_mismatch 87 = .ok (.bipush 7, 2) := by decide +kernel
theorem dX12_mismatch_89 : decode cX12_mismatch 89 = .ok (.invokevirtual 91, 3) := by decide +kernel
theorem dX12_mismatch_92 : decode cX12_mismatch 92 = .ok (.if_icmp .eq 6, 3) := by decide +kernel
theorem dX12_mismatch_95 : decode cX12_mismatch 95 = .ok (.bipush (-9), 2) := by decide +kernel
theorem dX12_mismatch_97 : decode cX12_mismatch 97 = .ok (.ireturn, 1) := by decide +kernel
theorem dX12_mismatch_98 : decode cX12_mismatch 98 = .ok (.iconst 0, 1) := by decide +kernel
theorem dX12_mismatch_99 : decode cX12_mismatch 99 = .ok (.istore 8, 2) := by decide +kernel
theorem dX12_mismatch_101 : decode cX12_mismatch 101 = .ok (.iconst 5, 1) := by decide +kernel
theorem dX12_mismatch_102 : decode cX12_mismatch 102 = .ok (.istore 9, 2) := by decide +kernel
theorem dX12_mismatch_104 : decode cX12_mismatch 104 = .ok (.iload 9, 2) := by decide +kernel
theorem dX12_mismatch_106 : decode cX12_mismatch 106 = .ok (.bipush 7, 2) := by decide +kernel
theorem dX12_mismatch_108 : decode cX12_mismatch 108 = .ok (.if_icmp .ge 109, 3) := by decide +kernel
theorem dX12_mismatch_111 : decode cX12_mismatch 111 = .ok (.iload 8, 2) := by decide +kernel
theorem dX12_mismatch_113 : decode cX12_mismatch 113 = .ok (.aload_n 0, 1) := by decide +kernel
theorem dX12_mismatch_114 : decode cX12_mismatch 114 = .ok (.iload_n 3, 1) := by decide +kernel
theorem dX12_mismatch_115 : decode cX12_mismatch 115 = .ok (.iload 4, 2) := by decide +kernel
theorem dX12_mismatch_117 : decode cX12_mismatch 117 = .ok (.iload 7, 2) := by decide +kernel
theorem dX12_mismatch_119 : decode cX12_mismatch 119 = .ok (.aload_n 0, 1) := by decide +kernel
theorem dX12_mismatch_120 : decode cX12_mismatch 120 = .ok (.getfield 68, 3) := by decide +kernel
theorem dX12_mismatch_123 : decode cX12_mismatch 123 = .ok (.iload_n 2, 1) := by decide +kernel
theorem dX12_mismatch_124 : decode cX12_mismatch 124 = .ok (.iload 9, 2) := by decide +kernel
theorem dX12_mismatch_126 : decode cX12_mismatch 126 = .ok (.iadd, 1) := by decide +kernel
theorem dX12_mismatch_127 : decode cX12_mismatch 127 = .ok (.iaload, 1) := by decide +kernel
theorem dX12_mismatch_128 : decode cX12_mismatch 128 = .ok (.iconst 0, 1) := by decide +kernel
theorem dX12_mismatch_129 : decode cX12_mismatch 129 = .ok (.invokevirtual 284, 3) := by decide +kernel
theorem dX12_mismatch_132 : decode cX12_mismatch 132 = .ok (.aload_n 0, 1) := by decide +kernel
theorem dX12_mismatch_133 : decode cX12_mismatch 133 = .ok (.iload 5, 2) := by decide +kernel
theorem dX12_mismatch_135 : decode cX12_mismatch 135 = .ok (.iload 6, 2) := by decide +kernel
theorem dX12_mismatch_137 : decode cX12_mismatch 137 = .ok (.iload 7, 2) := by decide +kernel
theorem dX12_mismatch_139 : decode cX12_mismatch 139 = .ok (.aload_n 0, 1) := by decide +kernel
theorem dX12_mismatch_140 : decode cX12_mismatch 140 = .ok (.getfield 68, 3) := by decide +kernel
theorem dX12_mismatch_143 : decode cX12_mismatch 143 = .ok (.iload_n 2, 1) := by decide +kernel
theorem dX12_mismatch_144 : decode cX12_mismatch 144 = .ok (.iload 9, 2) := by decide +kernel
theorem dX12_mismatch_146 : decode cX12_mismatch 146 = .ok (.iadd, 1) := by decide +kernel
theorem dX12_mismatch_147 : decode cX12_mismatch 147 = .ok (.iaload, 1) := by decide +kernel
theorem dX12_mismatch_148 : decode cX12_mismatch 148 = .ok (.iconst 0, 1) := by decide +kernel
theorem dX12_mismatch_149 : decode cX12_mismatch 149 = .ok (.invokevirtual 284, 3) := by decide +kernel
theorem dX12_mismatch_152 : decode cX12_mismatch 152 = .ok (.isub, 1) := by decide +kernel
theorem dX12_mismatch_153 : decode cX12_mismatch 153 = .ok (.invokestatic 222, 3) := by decide +kernel
theorem dX12_mismatch_156 : decode cX12_mismatch 156 = .ok (.invokestatic 113, 3) := by decide +kernel
theorem dX12_mismatch_159 : decode cX12_mismatch 159 = .ok (.istore 8, 2) := by decide +kernel
theorem dX12_mismatch_161 : decode cX12_mismatch 161 = .ok (.iload 8, 2) := by decide +kernel
theorem dX12_mismatch_163 : decode cX12_mismatch 163 = .ok (.aload_n 0, 1) := by decide +kernel
theorem dX12_mismatch_164 : decode cX12_mismatch 164 = .ok (.iload_n 3, 1) := by decide +kernel
theorem dX12_mismatch_165 : decode cX12_mismatch 165 = .ok (.iload 4, 2) := by decide +kernel
theorem dX12_mismatch_167 : decode cX12_mismatch 167 = .ok (.iload 7, 2) := by decide +kernel
theorem dX12_mismatch_169 : decode cX12_mismatch 169 = .ok (.aload_n 0, 1) := by decide +kernel
theorem dX12_mismatch_170 : decode cX12_mismatch 170 = .ok (.getfield 68, 3) := by decide +kernel
theorem dX12_mismatch_173 : decode cX12_mismatch 173 = .ok (.iload_n 2, 1) := by decide +kernel
theorem dX12_mismatch_174 : decode cX12_mismatch 174 = .ok (.iload 9, 2) := by decide +kernel
theorem dX12_mismatch_176 : decode cX12_mismatch 176 = .ok (.iadd, 1) := by decide +kernel
theorem dX12_mismatch_177 : decode cX12_mismatch 177 = .ok (.iaload, 1) := by decide +kernel
theorem dX12_mismatch_178 : decode cX12_mismatch 178 = .ok (.iconst 1, 1) := by decide +kernel
theorem dX12_mismatch_179 : decode cX12_mismatch 179 = .ok (.invokevirtual 284, 3) := by decide +kernel
theorem dX12_mismatch_182 : decode cX12_mismatch 182 = .ok (.aload_n 0, 1) := by decide +kernel
theorem dX12_mismatch_183 : decode cX12_mismatch 183 = .ok (.iload 5, 2) := by decide +kernel
theorem dX12_mismatch_185 : decode cX12_mismatch 185 = .ok (.iload 6, 2) := by decide +kernel
theorem dX12_mismatch_187 : decode cX12_mismatch 187 = .ok (.iload 7, 2) := by decide +kernel
theorem dX12_mismatch_189 : decode cX12_mismatch 189 = .ok (.aload_n 0, 1) := by decide +kernel
theorem dX12_mismatch_190 : decode cX12_mismatch 190 = .ok (.getfield 68, 3) := by decide +kernel
theorem dX12_mismatch_193 : decode cX12_mismatch 193 = .ok (.iload_n 2, 1) := by decide +kernel
theorem dX12_mismatch_194 : decode cX12_mismatch 194 = .ok (.iload 9, 2) := by decide +kernel
theorem dX12_mismatch_196 : decode cX12_mismatch 196 = .ok (.iadd, 1) := by decide +kernel
theorem dX12_mismatch_197 : decode cX12_mismatch 197 = .ok (.iaload, 1) := by decide +kernel
theorem dX12_mismatch_198 : decode cX12_mismatch 198 = .ok (.iconst 1, 1) := by decide +kernel
theorem dX12_mismatch_199 : decode cX12_mismatch 199 = .ok (.invokevirtual 284, 3) := by decide +kernel
theorem dX12_mismatch_202 : decode cX12_mismatch 202 = .ok (.isub, 1) := by decide +kernel
theorem dX12_mismatch_203 : decode cX12_mismatch 203 = .ok (.invokestatic 222, 3) := by decide +kernel
theorem dX12_mismatch_206 : decode cX12_mismatch 206 = .ok (.invokestatic 113, 3) := by decide +kernel
theorem dX12_mismatch_209 : decode cX12_mismatch 209 = .ok (.istore 8, 2) := by decide +kernel
theorem dX12_mismatch_211 : decode cX12_mismatch 211 = .ok (.iinc 9 1, 3) := by decide +kernel
theorem dX12_mismatch_214 : decode cX12_mismatch 214 = .ok (.goto (-110), 3) := by decide +kernel
theorem dX12_mismatch_217 : decode cX12_mismatch 217 = .ok (.aload_n 0, 1) := by decide +kernel
theorem dX12_mismatch_218 : decode cX12_mismatch 218 = .ok (.iload_n 3, 1) := by decide +kernel
theorem dX12_mismatch_219 : decode cX12_mismatch 219 = .ok (.iload 4, 2) := by decide +kernel
theorem dX12_mismatch_221 : decode cX12_mismatch 221 = .ok (.iconst 1, 1) := by decide +kernel
theorem dX12_mismatch_222 : decode cX12_mismatch 222 = .ok (.iconst 0, 1) := by decide +kernel
theorem dX12_mismatch_223 : decode cX12_mismatch 223 = .ok (.invokevirtual 287, 3) := by decide +kernel
theorem dX12_mismatch_226 : decode cX12_mismatch 226 = .ok (.aload_n 0, 1) := by decide +kernel
theorem dX12_mismatch_227 : decode cX12_mismatch 227 = .ok (.iload 5, 2) := by decide +kernel
theorem dX12_mismatch_229 : decode cX12_mismatch 229 = .ok (.iload 6, 2) := by decide +kernel
theorem dX12_mismatch_231 : decode cX12_mismatch 231 = .ok (.iconst (-1), 1) := by decide +kernel
theorem dX12_mismatch_232 : decode cX12_mismatch 232 = .ok (.iconst 0, 1) := by decide +kernel
theorem dX12_mismatch_233 : decode cX12_mismatch 233 = .ok (.invokevirtual 287, 3) := by decide +kernel
theorem dX12_mismatch_236 : decode cX12_mismatch 236 = .ok (.if_icmp .ne 29, 3) := by decide +kernel
theorem dX12_mismatch_239 : decode cX12_mismatch 239 = .ok (.aload_n 0, 1) := by decide +kernel
theorem dX12_mismatch_240 : decode cX12_mismatch 240 = .ok (.iload_n 3, 1) := by decide +kernel
theorem dX12_mismatch_241 : decode cX12_mismatch 241 = .ok (.iload 4, 2) := by decide +kernel
theorem dX12_mismatch_243 : decode cX12_mismatch 243 = .ok (.iconst 1, 1) := by decide +kernel
theorem dX12_mismatch_244 : decode cX12_mismatch 244 = .ok (.iconst 1, 1) := by decide +kernel
theorem dX12_mismatch_245 : decode cX12_mismatch 245 = .ok (.invokevirtual 287, 3) := by decide +kernel
theorem dX12_mismatch_248 : decode cX12_mismatch 248 = .ok (.aload_n 0, 1) := by decide +kernel
theorem dX12_mismatch_249 : decode cX12_mismatch 249 = .ok (.iload 5, 2) := by decide +kernel
theorem dX12_mismatch_251 : decode cX12_mismatch 251 = .ok (.iload 6, 2) := by decide +kernel
theorem dX12_mismatch_253 : decode cX12_mismatch 253 = .ok (.iconst (-1), 1) := by decide +kernel
theorem dX12_mismatch_254 : decode cX12_mismatch 254 = .ok (.iconst 1, 1) := by decide +kernel
theorem dX12_mismatch_255 : decode cX12_mismatch 255 = .ok (.invokevirtual 287, 3) := by decide +kernel
theorem dX12_mismatch_258 : decode cX12_mismatch 258 = .ok (.if_icmp .ne 7, 3) := by decide +kernel
theorem dX12_mismatch_261 : decode cX12_mismatch 261 = .ok (.iconst 1, 1) := by decide +kernel
theorem dX12_mismatch_262 : decode cX12_mismatch 262 = .ok (.goto 4, 3) := by decide +kernel
theorem dX12_mismatch_265 : decode cX12_mismatch 265 = .ok (.iconst 0, 1) := by decide +kernel
theorem dX12_mismatch_266 : decode cX12_mismatch 266 = .ok (.istore 9, 2) := by decide +kernel
theorem dX12_mismatch_268 : decode cX12_mismatch 268 = .ok (.iload 9, 2) := by decide +kernel
theorem dX12_mismatch_270 : decode cX12_mismatch 270 = .ok (.ifCond .eq 8, 3) := by decide +kernel
theorem dX12_mismatch_273 : decode cX12_mismatch 273 = .ok (.iload 8, 2) := by decide +kernel
theorem dX12_mismatch_275 : decode cX12_mismatch 275 = .ok (.goto 10, 3) := by decide +kernel
theorem dX12_mismatch_278 : decode cX12_mismatch 278 = .ok (.bipush 100, 2) := by decide +kernel
theorem dX12_mismatch_280 : decode cX12_mismatch 280 = .ok (.iload 8, 2) := by decide +kernel
theorem dX12_mismatch_282 : decode cX12_mismatch 282 = .ok (.invokestatic 113, 3) := by decide +kernel
theorem dX12_mismatch_285 : decode cX12_mismatch 285 = .ok (.ireturn, 1) := by decide +kernel
theorem dX12_onTurned_0 : decode cX12_onTurned 0 = .ok (.iload_n 0, 1) := by decide +kernel
theorem dX12_onTurned_1 : decode cX12_onTurned 1 = .ok (.iconst 3, 1) := by decide +kernel
theorem dX12_onTurned_2 : decode cX12_onTurned 2 = .ok (.if_icmp .le 9, 3) := by decide +kernel
theorem dX12_onTurned_5 : decode cX12_onTurned 5 = .ok (.iload_n 1, 1) := by decide +kernel
theorem dX12_onTurned_6 : decode cX12_onTurned 6 = .ok (.iload_n 3, 1) := by decide +kernel
theorem dX12_onTurned_7 : decode cX12_onTurned 7 = .ok (.isub, 1) := by decide +kernel
theorem dX12_onTurned_8 : decode cX12_onTurned 8 = .ok (.goto 4, 3) := by decide +kernel
theorem dX12_onTurned_11 : decode cX12_onTurned 11 = .ok (.iload_n 3, 1) := by decide +kernel
theorem dX12_onTurned_12 : decode cX12_onTurned 12 = .ok (.istore 6, 2) := by decide +kernel
theorem dX12_onTurned_14 : decode cX12_onTurned 14 = .ok (.iload_n 0, 1) := by decide +kernel
theorem dX12_onTurned_15 : decode cX12_onTurned 15 = .ok (.iconst 4, 1) := by decide +kernel
theorem dX12_onTurned_16 : decode cX12_onTurned 16 = .ok (.irem, 1) := by decide +kernel
theorem dX12_onTurned_17 : decode cX12_onTurned 17 = .ok (.istore 7, 2) := by decide +kernel
theorem dX12_onTurned_19 : decode cX12_onTurned 19 = .ok (.iload 7, 2) := by decide +kernel
theorem dX12_onTurned_21 : decode cX12_onTurned 21 = .ok (.ifCond .ne 8, 3) := by decide +kernel
theorem dX12_onTurned_24 : decode cX12_onTurned 24 = .ok (.iload 6, 2) := by decide +kernel
theorem dX12_onTurned_26 : decode cX12_onTurned 26 = .ok (.goto 31, 3) := by decide +kernel
theorem dX12_onTurned_29 : decode cX12_onTurned 29 = .ok (.iload 7, 2) := by decide +kernel
theorem dX12_onTurned_31 : decode cX12_onTurned 31 = .ok (.iconst 1, 1) := by decide +kernel
theorem dX12_onTurned_32 : decode cX12_onTurned 32 = .ok (.if_icmp .ne 10, 3) := by decide +kernel
theorem dX12_onTurned_35 : decode cX12_onTurned 35 = .ok (.iload_n 2, 1) := by decide +kernel
theorem dX12_onTurned_36 : decode cX12_onTurned 36 = .ok (.iload 4, 2) := by decide +kernel
theorem dX12_onTurned_38 : decode cX12_onTurned 38 = .ok (.isub, 1) := by decide +kernel
theorem dX12_onTurned_39 : decode cX12_onTurned 39 = .ok (.goto 18, 3) := by decide +kernel
theorem dX12_onTurned_42 : decode cX12_onTurned 42 = .ok (.iload 7, 2) := by decide +kernel
theorem dX12_onTurned_44 : decode cX12_onTurned 44 = .ok (.iconst 2, 1) := by decide +kernel
theorem dX12_onTurned_45 : decode cX12_onTurned 45 = .ok (.if_icmp .ne 10, 3) := by decide +kernel
theorem dX12_onTurned_48 : decode cX12_onTurned 48 = .ok (.iload_n 1, 1) := by decide +kernel
theorem dX12_onTurned_49 : decode cX12_onTurned 49 = .ok (.iload 6, 2) := by decide +kernel
theorem dX12_onTurned_51 : decode cX12_onTurned 51 = .ok (.isub, 1) := by decide +kernel
theorem dX12_onTurned_52 : decode cX12_onTurned 52 = .ok (.goto 5, 3) := by decide +kernel
theorem dX12_onTurned_55 : decode cX12_onTurned 55 = .ok (.iload 4, 2) := by decide +kernel
theorem dX12_onTurned_57 : decode cX12_onTurned 57 = .ok (.istore 8, 2) := by decide +kernel
theorem dX12_onTurned_59 : decode cX12_onTurned 59 = .ok (.iload 7, 2) := by decide +kernel
theorem dX12_onTurned_61 : decode cX12_onTurned 61 = .ok (.ifCond .ne 8, 3) := by decide +kernel
theorem dX12_onTurned_64 : decode cX12_onTurned 64 = .ok (.iload 4, 2) := by decide +kernel
theorem dX12_onTurned_66 : decode cX12_onTurned 66 = .ok (.goto 31, 3) := by decide +kernel
theorem dX12_onTurned_69 : decode cX12_onTurned 69 = .ok (.iload 7, 2) := by decide +kernel
theorem dX12_onTurned_71 : decode cX12_onTurned 71 = .ok (.iconst 1, 1) := by decide +kernel
theorem dX12_onTurned_72 : decode cX12_onTurned 72 = .ok (.if_icmp .ne 8, 3) := by decide +kernel
theorem dX12_onTurned_75 : decode cX12_onTurned 75 = .ok (.iload 6, 2) := by decide +kernel
theorem dX12_onTurned_77 : decode cX12_onTurned 77 = .ok (.goto 20, 3) := by decide +kernel
theorem dX12_onTurned_80 : decode cX12_onTurned 80 = .ok (.iload 7, 2) := by decide +kernel
theorem dX12_onTurned_82 : decode cX12_onTurned 82 = .ok (.iconst 2, 1) := by decide +kernel
theorem dX12_onTurned_83 : decode cX12_onTurned 83 = .ok (.if_icmp .ne 10, 3) := by decide +kernel
theorem dX12_onTurned_86 : decode cX12_onTurned 86 = .ok (.iload_n 2, 1) := by decide +kernel
theorem dX12_onTurned_87 : decode cX12_onTurned 87 = .ok (.iload 4, 2) := by decide +kernel
theorem dX12_onTurned_89 : decode cX12_onTurned 89 = .ok (.isub, 1) := by decide +kernel
theorem dX12_onTurned_90 : decode cX12_onTurned 90 = .ok (.goto 7, 3) := by decide +kernel
theorem dX12_onTurned_93 : decode cX12_onTurned 93 = .ok (.iload_n 1, 1) := by decide +kernel
theorem dX12_onTurned_94 : decode cX12_onTurned 94 = .ok (.iload 6, 2) := by decide +kernel
theorem dX12_onTurned_96 : decode cX12_onTurned 96 = .ok (.isub, 1) := by decide +kernel
theorem dX12_onTurned_97 : decode cX12_onTurned 97 = .ok (.istore 9, 2) := by decide +kernel
theorem dX12_onTurned_99 : decode cX12_onTurned 99 = .ok (.iload 5, 2) := by decide +kernel
theorem dX12_onTurned_101 : decode cX12_onTurned 101 = .ok (.ifCond .eq 8, 3) := by decide +kernel
theorem dX12_onTurned_104 : decode cX12_onTurned 104 = .ok (.iload 9, 2) := by decide +kernel
theorem dX12_onTurned_106 : decode cX12_onTurned 106 = .ok (.goto 5, 3) := by decide +kernel
theorem dX12_onTurned_109 : decode cX12_onTurned 109 = .ok (.iload 8, 2) := by decide +kernel
theorem dX12_onTurned_111 : decode cX12_onTurned 111 = .ok (.ireturn, 1) := by decide +kernel
theorem dX12_continueOver_0 : decode cX12_continueOver 0 = .ok (.bipush 9, 2) := by decide +kernel
theorem dX12_continueOver_2 : decode cX12_continueOver 2 = .ok (.iload_n 1, 1) := by decide +kernel
theorem dX12_continueOver_3 : decode cX12_continueOver 3 = .ok (.imul, 1) := by decide +kernel
theorem dX12_continueOver_4 : decode cX12_continueOver 4 = .ok (.istore_n 3, 1) := by decide +kernel
theorem dX12_continueOver_5 : decode cX12_continueOver 5 = .ok (.iload_n 2, 1) := by decide +kernel
theorem dX12_continueOver_6 : decode cX12_continueOver 6 = .ok (.ifCond .eq 14, 3) := by decide +kernel
theorem dX12_continueOver_9 : decode cX12_continueOver 9 = .ok (.aload_n 0, 1) := by decide +kernel
theorem dX12_continueOver_10 : decode cX12_continueOver 10 = .ok (.getfield 68, 3) := by decide +kernel
theorem dX12_continueOver_13 : decode cX12_continueOver 13 = .ok (.iload_n 3, 1) := by decide +kernel
theorem dX12_continueOver_14 : decode cX12_continueOver 14 = .ok (.iconst 2, 1) := by decide +kernel
theorem dX12_continueOver_15 : decode cX12_continueOver 15 = .ok (.iadd, 1) := by decide +kernel
theorem dX12_continueOver_16 : decode cX12_continueOver 16 = .ok (.iaload, 1) := by decide +kernel
theorem dX12_continueOver_17 : decode cX12_continueOver 17 = .ok (.goto 9, 3) := by decide +kernel
theorem dX12_continueOver_20 : decode cX12_continueOver 20 = .ok (.aload_n 0, 1) := by decide +kernel
theorem dX12_continueOver_21 : decode cX12_continueOver 21 = .ok (.getfield 68, 3) := by decide +kernel
theorem dX12_continueOver_24 : decode cX12_continueOver 24 = .ok (.iload_n 3, 1) := by decide +kernel
theorem dX12_continueOver_25 : decode cX12_continueOver 25 = .ok (.iaload, 1) := by decide +kernel
theorem dX12_continueOver_26 : decode cX12_continueOver 26 = .ok (.istore 4, 2) := by decide +kernel
theorem dX12_continueOver_28 : decode cX12_continueOver 28 = .ok (.iload_n 2, 1) := by decide +kernel
theorem dX12_continueOver_29 : decode cX12_continueOver 29 = .ok (.ifCond .eq 14, 3) := by decide +kernel
theorem dX12_continueOver_32 : decode cX12_continueOver 32 = .ok (.aload_n 0, 1) := by decide +kernel
theorem dX12_continueOver_33 : decode cX12_continueOver 33 = .ok (.getfield 68, 3) := by decide +kernel
theorem dX12_continueOver_36 : decode cX12_continueOver 36 = .ok (.iload_n 3, 1) := by decide +kernel
theorem dX12_continueOver_37 : decode cX12_continueOver 37 = .ok (.iconst 3, 1) := by decide +kernel
theorem dX12_continueOver_38 : decode cX12_continueOver 38 = .ok (.iadd, 1) := by decide +kernel
theorem dX12_continueOver_39 : decode cX12_continueOver 39 = .ok (.iaload, 1) := by decide +kernel
theorem dX12_continueOver_40 : decode cX12_continueOver 40 = .ok (.goto 11, 3) := by decide +kernel
theorem dX12_continueOver_43 : decode cX12_continueOver 43 = .ok (.aload_n 0, 1) := by decide +kernel
theorem dX12_continueOver_44 : decode cX12_continueOver 44 = .ok (.getfield 68, 3) := by decide +kernel
theorem dX12_continueOver_47 : decode cX12_continueOver 47 = .ok (.iload_n 3, 1) := by decide +kernel
theorem dX12_continueOver_48 : decode cX12_continueOver 48 = .ok (.iconst 1, 1) := by decide +kernel
theorem dX12_continueOver_49 : decode cX12_continueOver 49 = .ok (.iadd, 1) := by decide +kernel
theorem dX12_continueOver_50 : decode cX12_continueOver 50 = .ok (.iaload, 1) := by decide +kernel
theorem dX12_continueOver_51 : decode cX12_continueOver 51 = .ok (.istore 5, 2) := by decide +kernel
theorem dX12_continueOver_53 : decode cX12_continueOver 53 = .ok (.iload_n 2, 1) := by decide +kernel
theorem dX12_continueOver_54 : decode cX12_continueOver 54 = .ok (.ifCond .eq 12, 3) := by decide +kernel
theorem dX12_continueOver_57 : decode cX12_continueOver 57 = .ok (.aload_n 0, 1) := by decide +kernel
theorem dX12_continueOver_58 : decode cX12_continueOver 58 = .ok (.getfield 68, 3) := by decide +kernel
theorem dX12_continueOver_61 : decode cX12_continueOver 61 = .ok (.iload_n 3, 1) := by decide +kernel
theorem dX12_continueOver_62 : decode cX12_continueOver 62 = .ok (.iaload, 1) := by decide +kernel
theorem dX12_continueOver_63 : decode cX12_continueOver 63 = .ok (.goto 11, 3) := by decide +kernel
theorem dX12_continueOver_66 : decode cX12_continueOver 66 = .ok (.aload_n 0, 1) := by decide +kernel
theorem dX12_continueOver_67 : decode cX12_continueOver 67 = .ok (.getfield 68, 3) := by decide +kernel
theorem dX12_continueOver_70 : decode cX12_continueOver 70 = .ok (.iload_n 3, 1) := by decide +kernel
theorem dX12_continueOver_71 : decode cX12_continueOver 71 = .ok (.iconst 2, 1) := by decide +kernel
theorem dX12_continueOver_72 : decode cX12_continueOver 72 = .ok (.iadd, 1) := by decide +kernel
theorem dX12_continueOver_73 : decode cX12_continueOver 73 = .ok (.iaload, 1) := by decide +kernel
theorem dX12_continueOver_74 : decode cX12_continueOver 74 = .ok (.istore 6, 2) := by decide +kernel
theorem dX12_continueOver_76 : decode cX12_continueOver 76 = .ok (.iload_n 2, 1) := by decide +kernel
theorem dX12_continueOver_77 : decode cX12_continueOver 77 = .ok (.ifCond .eq 14, 3) := by decide +kernel
theorem dX12_continueOver_80 : decode cX12_continueOver 80 = .ok (.aload_n 0, 1) := by decide +kernel
theorem dX12_continueOver_81 : decode cX12_continueOver 81 = .ok (.getfield 68, 3) := by decide +kernel
theorem dX12_continueOver_84 : decode cX12_continueOver 84 = .ok (.iload_n 3, 1) := by decide +kernel
theorem dX12_continueOver_85 : decode cX12_continueOver 85 = .ok (.iconst 1, 1) := by decide +kernel
theorem dX12_continueOver_86 : decode cX12_continueOver 86 = .ok (.iadd, 1) := by decide +kernel
theorem dX12_continueOver_87 : decode cX12_continueOver 87 = .ok (.iaload, 1) := by decide +kernel
theorem dX12_continueOver_88 : decode cX12_continueOver 88 = .ok (.goto 11, 3) := by decide +kernel
theorem dX12_continueOver_91 : decode cX12_continueOver 91 = .ok (.aload_n 0, 1) := by decide +kernel
theorem dX12_continueOver_92 : decode cX12_continueOver 92 = .ok (.getfield 68, 3) := by decide +kernel
theorem dX12_continueOver_95 : decode cX12_continueOver 95 = .ok (.iload_n 3, 1) := by decide +kernel
theorem dX12_continueOver_96 : decode cX12_continueOver 96 = .ok (.iconst 3, 1) := by decide +kernel
theorem dX12_continueOver_97 : decode cX12_continueOver 97 = .ok (.iadd, 1) := by decide +kernel
theorem dX12_continueOver_98 : decode cX12_continueOver 98 = .ok (.iaload, 1) := by decide +kernel
theorem dX12_continueOver_99 : decode cX12_continueOver 99 = .ok (.istore 7, 2) := by decide +kernel
theorem dX12_continueOver_101 : decode cX12_continueOver 101 = .ok (.aload_n 0, 1) := by decide +kernel
theorem dX12_continueOver_102 : decode cX12_continueOver 102 = .ok (.getfield 68, 3) := by decide +kernel
theorem dX12_continueOver_105 : decode cX12_continueOver 105 = .ok (.iload_n 3, 1) := by decide +kernel
theorem dX12_continueOver_106 : decode cX12_continueOver 106 = .ok (.iconst 4, 1) := by decide +kernel
theorem dX12_continueOver_107 : decode cX12_continueOver 107 = .ok (.iadd, 1) := by decide +kernel
theorem dX12_continueOver_108 : decode cX12_continueOver 108 = .ok (.iaload, 1) := by decide +kernel
theorem dX12_continueOver_109 : decode cX12_continueOver 109 = .ok (.istore 8, 2) := by decide +kernel
theorem dX12_continueOver_111 : decode cX12_continueOver 111 = .ok (.aload_n 0, 1) := by decide +kernel
theorem dX12_continueOver_112 : decode cX12_continueOver 112 = .ok (.iload 4, 2) := by decide +kernel
theorem dX12_continueOver_114 : decode cX12_continueOver 114 = .ok (.iload 5, 2) := by decide +kernel
theorem dX12_continueOver_116 : decode cX12_continueOver 116 = .ok (.invokevirtual 281, 3) := by decide +kernel
theorem dX12_continueOver_119 : decode cX12_continueOver 119 = .ok (.bipush (-9), 2) := by decide +kernel
theorem dX12_continueOver_121 : decode cX12_continueOver 121 = .ok (.if_icmp .ne 6, 3) := by decide +kernel
theorem dX12_continueOver_124 : decode cX12_continueOver 124 = .ok (.bipush (-9), 2) := by decide +kernel
theorem dX12_continueOver_126 : decode cX12_continueOver 126 = .ok (.ireturn, 1) := by decide +kernel
theorem dX12_continueOver_127 : decode cX12_continueOver 127 = .ok (.aload_n 0, 1) := by decide +kernel
theorem dX12_continueOver_128 : decode cX12_continueOver 128 = .ok (.iload 4, 2) := by decide +kernel
theorem dX12_continueOver_130 : decode cX12_continueOver 130 = .ok (.iconst 0, 1) := by decide +kernel
theorem dX12_continueOver_131 : decode cX12_continueOver 131 = .ok (.invokevirtual 256, 3) := by decide +kernel
theorem dX12_continueOver_134 : decode cX12_continueOver 134 = .ok (.istore 9, 2) := by decide +kernel
theorem dX12_continueOver_136 : decode cX12_continueOver 136 = .ok (.aload_n 0, 1) := by decide +kernel
theorem dX12_continueOver_137 : decode cX12_continueOver 137 = .ok (.iload 4, 2) := by decide +kernel
theorem dX12_continueOver_139 : decode cX12_continueOver 139 = .ok (.iconst 1, 1) := by decide +kernel
theorem dX12_continueOver_140 : decode cX12_continueOver 140 = .ok (.invokevirtual 256, 3) := by decide +kernel
theorem dX12_continueOver_143 : decode cX12_continueOver 143 = .ok (.istore 10, 2) := by decide +kernel
theorem dX12_continueOver_145 : decode cX12_continueOver 145 = .ok (.aload_n 0, 1) := by decide +kernel
theorem dX12_continueOver_146 : decode cX12_continueOver 146 = .ok (.iload 4, 2) := by decide +kernel
theorem dX12_continueOver_148 : decode cX12_continueOver 148 = .ok (.iload 5, 2) := by decide +kernel
theorem dX12_continueOver_150 : decode cX12_continueOver 150 = .ok (.iload 8, 2) := by decide +kernel
theorem dX12_continueOver_152 : decode cX12_continueOver 152 = .ok (.aload_n 0, 1) := by decide +kernel
theorem dX12_continueOver_153 : decode cX12_continueOver 153 = .ok (.getfield 68, 3) := by decide +kernel
theorem dX12_continueOver_156 : decode cX12_continueOver 156 = .ok (.iload_n 3, 1) := by decide +kernel
theorem dX12_continueOver_157 : decode cX12_continueOver 157 = .ok (.iconst 5, 1) := by decide +kernel
theorem dX12_continueOver_158 : decode cX12_continueOver 158 = .ok (.iadd, 1) := by decide +kernel
theorem dX12_continueOver_159 : decode cX12_continueOver 159 = .ok (.iaload, 1) := by decide +kernel
theorem dX12_continueOver_160 : decode cX12_continueOver 160 = .ok (.iconst 0, 1) := by decide +kernel
theorem dX12_continueOver_161 : decode cX12_continueOver 161 = .ok (.invokevirtual 284, 3) := by decide +kernel
theorem dX12_continueOver_164 : decode cX12_continueOver 164 = .ok (.istore 11, 2) := by decide +kernel
theorem dX12_continueOver_166 : decode cX12_continueOver 166 = .ok (.aload_n 0, 1) := by decide +kernel
theorem dX12_continueOver_167 : decode cX12_continueOver 167 = .ok (.iload 4, 2) := by decide +kernel
theorem dX12_continueOver_169 : decode cX12_continueOver 169 = .ok (.iload 5, 2) := by decide +kernel
theorem dX12_continueOver_171 : decode cX12_continueOver 171 = .ok (.iload 8, 2) := by decide +kernel
theorem dX12_continueOver_173 : decode cX12_continueOver 173 = .ok (.aload_n 0, 1) := by decide +kernel
theorem dX12_continueOver_174 : decode cX12_continueOver 174 = .ok (.getfield 68, 3) := by decide +kernel
theorem dX12_continueOver_177 : decode cX12_continueOver 177 = .ok (.iload_n 3, 1) := by decide +kernel
theorem dX12_continueOver_178 : decode cX12_continueOver 178 = .ok (.iconst 5, 1) := by decide +kernel
theorem dX12_continueOver_179 : decode cX12_continueOver 179 = .ok (.iadd, 1) := by decide +kernel
theorem dX12_continueOver_180 : decode cX12_continueOver 180 = .ok (.iaload, 1) := by decide +kernel
theorem dX12_continueOver_181 : decode cX12_continueOver 181 = .ok (.iconst 1, 1) := by decide +kernel
theorem dX12_continueOver_182 : decode cX12_continueOver 182 = .ok (.invokevirtual 284, 3) := by decide +kernel
theorem dX12_continueOver_185 : decode cX12_continueOver 185 = .ok (.istore 12, 2) := by decide +kernel
theorem dX12_continueOver_187 : decode cX12_continueOver 187 = .ok (.aload_n 0, 1) := by decide +kernel
theorem dX12_continueOver_188 : decode cX12_continueOver 188 = .ok (.iload 4, 2) := by decide +kernel
theorem dX12_continueOver_190 : decode cX12_continueOver 190 = .ok (.iload 5, 2) := by decide +kernel
theorem dX12_continueOver_192 : decode cX12_continueOver 192 = .ok (.iload 8, 2) := by decide +kernel
theorem dX12_continueOver_194 : decode cX12_continueOver 194 = .ok (.aload_n 0, 1) := by decide +kernel
theorem dX12_continueOver_195 : decode cX12_continueOver 195 = .ok (.getfield 68, 3) := by decide +kernel
theorem dX12_continueOver_198 : decode cX12_continueOver 198 = .ok (.iload_n 3, 1) := by decide +kernel
theorem dX12_continueOver_199 : decode cX12_continueOver 199 = .ok (.bipush 6, 2) := by decide +kernel
theorem dX12_continueOver_201 : decode cX12_continueOver 201 = .ok (.iadd, 1) := by decide +kernel
theorem dX12_continueOver_202 : decode cX12_continueOver 202 = .ok (.iaload, 1) := by decide +kernel
theorem dX12_continueOver_203 : decode cX12_continueOver 203 = .ok (.iconst 0, 1) := by decide +kernel
theorem dX12_continueOver_204 : decode cX12_continueOver 204 = .ok (.invokevirtual 284, 3) := by decide +kernel
theorem dX12_continueOver_207 : decode cX12_continueOver 207 = .ok (.istore 13, 2) := by decide +kernel
theorem dX12_continueOver_209 : decode cX12_continueOver 209 = .ok (.aload_n 0, 1) := by decide +kernel
theorem dX12_continueOver_210 : decode cX12_continueOver 210 = .ok (.iload 4, 2) := by decide +kernel
theorem dX12_continueOver_212 : decode cX12_continueOver 212 = .ok (.iload 5, 2) := by decide +kernel
theorem dX12_continueOver_214 : decode cX12_continueOver 214 = .ok (.iload 8, 2) := by decide +kernel
theorem dX12_continueOver_216 : decode cX12_continueOver 216 = .ok (.aload_n 0, 1) := by decide +kernel
theorem dX12_continueOver_217 : decode cX12_continueOver 217 = .ok (.getfield 68, 3) := by decide +kernel
theorem dX12_continueOver_220 : decode cX12_continueOver 220 = .ok (.iload_n 3, 1) := by decide +kernel
theorem dX12_continueOver_221 : decode cX12_continueOver 221 = .ok (.bipush 6, 2) := by decide +kernel
theorem dX12_continueOver_223 : decode cX12_continueOver 223 = .ok (.iadd, 1) := by decide +kernel
theorem dX12_continueOver_224 : decode cX12_continueOver 224 = .ok (.iaload, 1) := by decide +kernel
theorem dX12_continueOver_225 : decode cX12_continueOver 225 = .ok (.iconst 1, 1) := by decide +kernel
theorem dX12_continueOver_226 : decode cX12_continueOver 226 = .ok (.invokevirtual 284, 3) := by decide +kernel
theorem dX12_continueOver_229 : decode cX12_continueOver 229 = .ok (.istore 14, 2) := by decide +kernel
theorem dX12_continueOver_231 : decode cX12_continueOver 231 = .ok (.iload 11, 2) := by decide +kernel
theorem dX12_continueOver_233 : decode cX12_continueOver 233 = .ok (.aload_n 0, 1) := by decide +kernel
theorem dX12_continueOver_234 : decode cX12_continueOver 234 = .ok (.iload 4, 2) := by decide +kernel
theorem dX12_continueOver_236 : decode cX12_continueOver 236 = .ok (.iload 5, 2) := by decide +kernel
theorem dX12_continueOver_238 : decode cX12_continueOver 238 = .ok (.iconst 1, 1) := by decide +kernel
theorem dX12_continueOver_239 : decode cX12_continueOver 239 = .ok (.iconst 0, 1) := by decide +kernel
theorem dX12_continueOver_240 : decode cX12_continueOver 240 = .ok (.invokevirtual 287, 3) := by decide +kernel
theorem dX12_continueOver_243 : decode cX12_continueOver 243 = .ok (.iadd, 1) := by decide +kernel
theorem dX12_continueOver_244 : decode cX12_continueOver 244 = .ok (.istore 15, 2) := by decide +kernel
theorem dX12_continueOver_246 : decode cX12_continueOver 246 = .ok (.iload 12, 2) := by decide +kernel
theorem dX12_continueOver_248 : decode cX12_continueOver 248 = .ok (.aload_n 0, 1) := by decide +kernel
theorem dX12_continueOver_249 : decode cX12_continueOver 249 = .ok (.iload 4, 2) := by decide +kernel
theorem dX12_continueOver_251 : decode cX12_continueOver 251 = .ok (.iload 5, 2) := by decide +kernel
theorem dX12_continueOver_253 : decode cX12_continueOver 253 = .ok (.iconst 1, 1) := by decide +kernel
theorem dX12_continueOver_254 : decode cX12_continueOver 254 = .ok (.iconst 1, 1) := by decide +kernel
theorem dX12_continueOver_255 : decode cX12_continueOver 255 = .ok (.invokevirtual 287, 3) := by decide +kernel
theorem dX12_continueOver_258 : decode cX12_continueOver 258 = .ok (.iadd, 1) := by decide +kernel
theorem dX12_continueOver_259 : decode cX12_continueOver 259 = .ok (.istore 16, 2) := by decide +kernel
theorem dX12_continueOver_261 : decode cX12_continueOver 261 = .ok (.aload_n 0, 1) := by decide +kernel
theorem dX12_continueOver_262 : decode cX12_continueOver 262 = .ok (.iload 6, 2) := by decide +kernel
theorem dX12_continueOver_264 : decode cX12_continueOver 264 = .ok (.iload 7, 2) := by decide +kernel
theorem dX12_continueOver_266 : decode cX12_continueOver 266 = .ok (.iload 8, 2) := by decide +kernel
theorem dX12_continueOver_268 : decode cX12_continueOver 268 = .ok (.aload_n 0, 1) := by decide +kernel
theorem dX12_continueOver_269 : decode cX12_continueOver 269 = .ok (.getfield 68, 3) := by decide +kernel
theorem dX12_continueOver_272 : decode cX12_continueOver 272 = .ok (.iload_n 3, 1) := by decide +kernel
theorem dX12_continueOver_273 : decode cX12_continueOver 273 = .ok (.iconst 5, 1) := by decide +kernel
theorem dX12_continueOver_274 : decode cX12_continueOver 274 = .ok (.iadd, 1) := by decide +kernel
theorem dX12_continueOver_275 : decode cX12_continueOver 275 = .ok (.iaload, 1) := by decide +kernel
theorem dX12_continueOver_276 : decode cX12_continueOver 276 = .ok (.iconst 0, 1) := by decide +kernel
theorem dX12_continueOver_277 : decode cX12_continueOver 277 = .ok (.invokevirtual 277, 3) := by decide +kernel
theorem dX12_continueOver_280 : decode cX12_continueOver 280 = .ok (.istore 17, 2) := by decide +kernel
theorem dX12_continueOver_282 : decode cX12_continueOver 282 = .ok (.aload_n 0, 1) := by decide +kernel
theorem dX12_continueOver_283 : decode cX12_continueOver 283 = .ok (.iload 6, 2) := by decide +kernel
theorem dX12_continueOver_285 : decode cX12_continueOver 285 = .ok (.iload 7, 2) := by decide +kernel
theorem dX12_continueOver_287 : decode cX12_continueOver 287 = .ok (.iload 8, 2) := by decide +kernel
theorem dX12_continueOver_289 : decode cX12_continueOver 289 = .ok (.aload_n 0, 1) := by decide +kernel
theorem dX12_continueOver_290 : decode cX12_continueOver 290 = .ok (.getfield 68, 3) := by decide +kernel
theorem dX12_continueOver_293 : decode cX12_continueOver 293 = .ok (.iload_n 3, 1) := by decide +kernel
theorem dX12_continueOver_294 : decode cX12_continueOver 294 = .ok (.iconst 5, 1) := by decide +kernel
theorem dX12_continueOver_295 : decode cX12_continueOver 295 = .ok (.iadd, 1) := by decide +kernel
theorem dX12_continueOver_296 : decode cX12_continueOver 296 = .ok (.iaload, 1) := by decide +kernel
theorem dX12_continueOver_297 : decode cX12_continueOver 297 = .ok (.iconst 1, 1) := by decide +kernel
theorem dX12_continueOver_298 : decode cX12_continueOver 298 = .ok (.invokevirtual 277, 3) := by decide +kernel
theorem dX12_continueOver_301 : decode cX12_continueOver 301 = .ok (.istore 18, 2) := by decide +kernel
theorem dX12_continueOver_303 : decode cX12_continueOver 303 = .ok (.aload_n 0, 1) := by decide +kernel
theorem dX12_continueOver_304 : decode cX12_continueOver 304 = .ok (.iload 6, 2) := by decide +kernel
theorem dX12_continueOver_306 : decode cX12_continueOver 306 = .ok (.iload 7, 2) := by decide +kernel
theorem dX12_continueOver_308 : decode cX12_continueOver 308 = .ok (.iload 8, 2) := by decide +kernel
theorem dX12_continueOver_310 : decode cX12_continueOver 310 = .ok (.aload_n 0, 1) := by decide +kernel
theorem dX12_continueOver_311 : decode cX12_continueOver 311 = .ok (.getfield 68, 3) := by decide +kernel
theorem dX12_continueOver_314 : decode cX12_continueOver 314 = .ok (.iload_n 3, 1) := by decide +kernel
theorem dX12_continueOver_315 : decode cX12_continueOver 315 = .ok (.bipush 6, 2) := by decide +kernel
theorem dX12_continueOver_317 : decode cX12_continueOver 317 = .ok (.iadd, 1) := by decide +kernel
theorem dX12_continueOver_318 : decode cX12_continueOver 318 = .ok (.iaload, 1) := by decide +kernel
theorem dX12_continueOver_319 : decode cX12_continueOver 319 = .ok (.iconst 0, 1) := by decide +kernel
theorem dX12_continueOver_320 : decode cX12_continueOver 320 = .ok (.invokevirtual 277, 3) := by decide +kernel
theorem dX12_continueOver_323 : decode cX12_continueOver 323 = .ok (.istore 19, 2) := by decide +kernel
theorem dX12_continueOver_325 : decode cX12_continueOver 325 = .ok (.aload_n 0, 1) := by decide +kernel
theorem dX12_continueOver_326 : decode cX12_continueOver 326 = .ok (.iload 6, 2) := by decide +kernel
theorem dX12_continueOver_328 : decode cX12_continueOver 328 = .ok (.iload 7, 2) := by decide +kernel
theorem dX12_continueOver_330 : decode cX12_continueOver 330 = .ok (.iload 8, 2) := by decide +kernel
theorem dX12_continueOver_332 : decode cX12_continueOver 332 = .ok (.aload_n 0, 1) := by decide +kernel
theorem dX12_continueOver_333 : decode cX12_continueOver 333 = .ok (.getfield 68, 3) := by decide +kernel
theorem dX12_continueOver_336 : decode cX12_continueOver 336 = .ok (.iload_n 3, 1) := by decide +kernel
theorem dX12_continueOver_337 : decode cX12_continueOver 337 = .ok (.bipush 6, 2) := by decide +kernel
theorem dX12_continueOver_339 : decode cX12_continueOver 339 = .ok (.iadd, 1) := by decide +kernel
theorem dX12_continueOver_340 : decode cX12_continueOver 340 = .ok (.iaload, 1) := by decide +kernel
theorem dX12_continueOver_341 : decode cX12_continueOver 341 = .ok (.iconst 1, 1) := by decide +kernel
theorem dX12_continueOver_342 : decode cX12_continueOver 342 = .ok (.invokevirtual 277, 3) := by decide +kernel
theorem dX12_continueOver_345 : decode cX12_continueOver 345 = .ok (.istore 20, 2) := by decide +kernel
theorem dX12_continueOver_347 : decode cX12_continueOver 347 = .ok (.bipush (-9), 2) := by decide +kernel
theorem dX12_continueOver_349 : decode cX12_continueOver 349 = .ok (.istore 21, 2) := by decide +kernel
theorem dX12_continueOver_351 : decode cX12_continueOver 351 = .ok (.iconst 0, 1) := by decide +kernel
theorem dX12_continueOver_352 : decode cX12_continueOver 352 = .ok (.istore 22, 2) := by decide +kernel
theorem dX12_continueOver_354 : decode cX12_continueOver 354 = .ok (.iload 22, 2) := by decide +kernel
theorem dX12_continueOver_356 : decode cX12_continueOver 356 = .ok (.bipush 8, 2) := by decide +kernel
theorem dX12_continueOver_358 : decode cX12_continueOver 358 = .ok (.if_icmp .ge 225, 3) := by decide +kernel
theorem dX12_continueOver_361 : decode cX12_continueOver 361 = .ok (.iload 17, 2) := by decide +kernel
theorem dX12_continueOver_363 : decode cX12_continueOver 363 = .ok (.iload 22, 2) := by decide +kernel
theorem dX12_continueOver_365 : decode cX12_continueOver 365 = .ok (.iload 9, 2) := by decide +kernel
theorem dX12_continueOver_367 : decode cX12_continueOver 367 = .ok (.iload 10, 2) := by decide +kernel
theorem dX12_continueOver_369 : decode cX12_continueOver 369 = .ok (.iload 11, 2) := by decide +kernel
theorem dX12_continueOver_371 : decode cX12_continueOver 371 = .ok (.iload 12, 2) := by decide +kernel
theorem dX12_continueOver_373 : decode cX12_continueOver 373 = .ok (.iconst 0, 1) := by decide +kernel
theorem dX12_continueOver_374 : decode cX12_continueOver 374 = .ok (.invokestatic 290, 3) := by decide +kernel
theorem dX12_continueOver_377 : decode cX12_continueOver 377 = .ok (.isub, 1) := by decide +kernel
theorem dX12_continueOver_378 : decode cX12_continueOver 378 = .ok (.istore 23, 2) := by decide +kernel
theorem dX12_continueOver_380 : decode cX12_continueOver 380 = .ok (.iload 18, 2) := by decide +kernel
theorem dX12_continueOver_382 : decode cX12_continueOver 382 = .ok (.iload 22, 2) := by decide +kernel
theorem dX12_continueOver_384 : decode cX12_continueOver 384 = .ok (.iload 9, 2) := by decide +kernel
theorem dX12_continueOver_386 : decode cX12_continueOver 386 = .ok (.iload 10, 2) := by decide +kernel
theorem dX12_continueOver_388 : decode cX12_continueOver 388 = .ok (.iload 11, 2) := by decide +kernel
theorem dX12_continueOver_390 : decode cX12_continueOver 390 = .ok (.iload 12, 2) := by decide +kernel
theorem dX12_continueOver_392 : decode cX12_continueOver 392 = .ok (.iconst 1, 1) := by decide +kernel
theorem dX12_continueOver_393 : decode cX12_continueOver 393 = .ok (.invokestatic 290, 3) := by decide +kernel
theorem dX12_continueOver_396 : decode cX12_continueOver 396 = .ok (.isub, 1) := by decide +kernel
theorem dX12_continueOver_397 : decode cX12_continueOver 397 = .ok (.istore 24, 2) := by decide +kernel
theorem dX12_continueOver_399 : decode cX12_continueOver 399 = .ok (.iload 19, 2) := by decide +kernel
theorem dX12_continueOver_401 : decode cX12_continueOver 401 = .ok (.iload 23, 2) := by decide +kernel
theorem dX12_continueOver_403 : decode cX12_continueOver 403 = .ok (.isub, 1) := by decide +kernel
theorem dX12_continueOver_404 : decode cX12_continueOver 404 = .ok (.iload 22, 2) := by decide +kernel
theorem dX12_continueOver_406 : decode cX12_continueOver 406 = .ok (.iload 9, 2) := by decide +kernel
theorem dX12_continueOver_408 : decode cX12_continueOver 408 = .ok (.iload 10, 2) := by decide +kernel
theorem dX12_continueOver_410 : decode cX12_continueOver 410 = .ok (.iload 13, 2) := by decide +kernel
theorem dX12_continueOver_412 : decode cX12_continueOver 412 = .ok (.iload 14, 2) := by decide +kernel
theorem dX12_continueOver_414 : decode cX12_continueOver 414 = .ok (.iconst 0, 1) := by decide +kernel
theorem dX12_continueOver_415 : decode cX12_continueOver 415 = .ok (.invokestatic 290, 3) := by decide +kernel
theorem dX12_continueOver_418 : decode cX12_continueOver 418 = .ok (.if_icmp .ne 29, 3) := by decide +kernel
theorem dX12_continueOver_421 : decode cX12_continueOver 421 = .ok (.iload 20, 2) := by decide +kernel
theorem dX12_continueOver_423 : decode cX12_continueOver 423 = .ok (.iload 24, 2) := by decide +kernel
theorem dX12_continueOver_425 : decode cX12_continueOver 425 = .ok (.isub, 1) := by decide +kernel
theorem dX12_continueOver_426 : decode cX12_continueOver 426 = .ok (.iload 22, 2) := by decide +kernel
theorem dX12_continueOver_428 : decode cX12_continueOver 428 = .ok (.iload 9, 2) := by decide +kernel
theorem dX12_continueOver_430 : decode cX12_continueOver 430 = .ok (.iload 10, 2) := by decide +kernel
theorem dX12_continueOver_432 : decode cX12_continueOver 432 = .ok (.iload 13, 2) := by decide +kernel
theorem dX12_continueOver_434 : decode cX12_continueOver 434 = .ok (.iload 14, 2) := by decide +kernel
theorem dX12_continueOver_436 : decode cX12_continueOver 436 = .ok (.iconst 1, 1) := by decide +kernel
theorem dX12_continueOver_437 : decode cX12_continueOver 437 = .ok (.invokestatic 290, 3) := by decide +kernel
theorem dX12_continueOver_440 : decode cX12_continueOver 440 = .ok (.if_icmp .ne 7, 3) := by decide +kernel
theorem dX12_continueOver_443 : decode cX12_continueOver 443 = .ok (.iconst 1, 1) := by decide +kernel
theorem dX12_continueOver_444 : decode cX12_continueOver 444 = .ok (.goto 4, 3) := by decide +kernel
theorem dX12_continueOver_447 : decode cX12_continueOver 447 = .ok (.iconst 0, 1) := by decide +kernel
theorem dX12_continueOver_448 : decode cX12_continueOver 448 = .ok (.istore 25, 2) := by decide +kernel
theorem dX12_continueOver_450 : decode cX12_continueOver 450 = .ok (.iload 25, 2) := by decide +kernel
theorem dX12_continueOver_452 : decode cX12_continueOver 452 = .ok (.ifCond .eq 65, 3) := by decide +kernel
theorem dX12_continueOver_455 : decode cX12_continueOver 455 = .ok (.iload 17, 2) := by decide +kernel
theorem dX12_continueOver_457 : decode cX12_continueOver 457 = .ok (.iload 7, 2) := by decide +kernel
theorem dX12_continueOver_459 : decode cX12_continueOver 459 = .ok (.iconst 0, 1) := by decide +kernel
theorem dX12_continueOver_460 : decode cX12_continueOver 460 = .ok (.invokestatic 270, 3) := by decide +kernel
theorem dX12_continueOver_463 : decode cX12_continueOver 463 = .ok (.isub, 1) := by decide +kernel
theorem dX12_continueOver_464 : decode cX12_continueOver 464 = .ok (.iload 23, 2) := by decide +kernel
theorem dX12_continueOver_466 : decode cX12_continueOver 466 = .ok (.isub, 1) := by decide +kernel
theorem dX12_continueOver_467 : decode cX12_continueOver 467 = .ok (.iload 22, 2) := by decide +kernel
theorem dX12_continueOver_469 : decode cX12_continueOver 469 = .ok (.iload 9, 2) := by decide +kernel
theorem dX12_continueOver_471 : decode cX12_continueOver 471 = .ok (.iload 10, 2) := by decide +kernel
theorem dX12_continueOver_473 : decode cX12_continueOver 473 = .ok (.iload 15, 2) := by decide +kernel
theorem dX12_continueOver_475 : decode cX12_continueOver 475 = .ok (.iload 16, 2) := by decide +kernel
theorem dX12_continueOver_477 : decode cX12_continueOver 477 = .ok (.iconst 0, 1) := by decide +kernel
theorem dX12_continueOver_478 : decode cX12_continueOver 478 = .ok (.invokestatic 290, 3) := by decide +kernel
theorem dX12_continueOver_481 : decode cX12_continueOver 481 = .ok (.if_icmp .ne 36, 3) := by decide +kernel
theorem dX12_continueOver_484 : decode cX12_continueOver 484 = .ok (.iload 18, 2) := by decide +kernel
theorem dX12_continueOver_486 : decode cX12_continueOver 486 = .ok (.iload 7, 2) := by decide +kernel
theorem dX12_continueOver_488 : decode cX12_continueOver 488 = .ok (.iconst 1, 1) := by decide +kernel
theorem dX12_continueOver_489 : decode cX12_continueOver 489 = .ok (.invokestatic 270, 3) := by decide +kernel
theorem dX12_continueOver_492 : decode cX12_continueOver 492 = .ok (.isub, 1) := by decide +kernel
theorem dX12_continueOver_493 : decode cX12_continueOver 493 = .ok (.iload 24, 2) := by decide +kernel
theorem dX12_continueOver_495 : decode cX12_continueOver 495 = .ok (.isub, 1) := by decide +kernel
theorem dX12_continueOver_496 : decode cX12_continueOver 496 = .ok (.iload 22, 2) := by decide +kernel
theorem dX12_continueOver_498 : decode cX12_continueOver 498 = .ok (.iload 9, 2) := by decide +kernel
theorem dX12_continueOver_500 : decode cX12_continueOver 500 = .ok (.iload 10, 2) := by decide +kernel
theorem dX12_continueOver_502 : decode cX12_continueOver 502 = .ok (.iload 15, 2) := by decide +kernel
theorem dX12_continueOver_504 : decode cX12_continueOver 504 = .ok (.iload 16, 2) := by decide +kernel
theorem dX12_continueOver_506 : decode cX12_continueOver 506 = .ok (.iconst 1, 1) := by decide +kernel
theorem dX12_continueOver_507 : decode cX12_continueOver 507 = .ok (.invokestatic 290, 3) := by decide +kernel
theorem dX12_continueOver_510 : decode cX12_continueOver 510 = .ok (.if_icmp .ne 7, 3) := by decide +kernel
theorem dX12_continueOver_513 : decode cX12_continueOver 513 = .ok (.iconst 1, 1) := by decide +kernel
theorem dX12_continueOver_514 : decode cX12_continueOver 514 = .ok (.goto 4, 3) := by decide +kernel
theorem dX12_continueOver_517 : decode cX12_continueOver 517 = .ok (.iconst 0, 1) := by decide +kernel
theorem dX12_continueOver_518 : decode cX12_continueOver 518 = .ok (.istore 25, 2) := by decide +kernel
theorem dX12_continueOver_520 : decode cX12_continueOver 520 = .ok (.iload 25, 2) := by decide +kernel
theorem dX12_continueOver_522 : decode cX12_continueOver 522 = .ok (.ifCond .eq 55, 3) := by decide +kernel
theorem dX12_continueOver_525 : decode cX12_continueOver 525 = .ok (.iload 23, 2) := by decide +kernel
theorem dX12_continueOver_527 : decode cX12_continueOver 527 = .ok (.sipush (-300), 3) := by decide +kernel
theorem dX12_continueOver_530 : decode cX12_continueOver 530 = .ok (.sipush 300, 3) := by decide +kernel
theorem dX12_continueOver_533 : decode cX12_continueOver 533 = .ok (.invokestatic 87, 3) := by decide +kernel
theorem dX12_continueOver_536 : decode cX12_continueOver 536 = .ok (.ifCond .eq 41, 3) := by decide +kernel
theorem dX12_continueOver_539 : decode cX12_continueOver 539 = .ok (.iload 24, 2) := by decide +kernel
theorem dX12_continueOver_541 : decode cX12_continueOver 541 = .ok (.sipush (-300), 3) := by decide +kernel
theorem dX12_continueOver_544 : decode cX12_continueOver 544 = .ok (.sipush 300, 3) := by decide +kernel
theorem dX12_continueOver_547 : decode cX12_continueOver 547 = .ok (.invokestatic 87, 3) := by decide +kernel
theorem dX12_continueOver_550 : decode cX12_continueOver 550 = .ok (.ifCond .eq 27, 3) := by decide +kernel
theorem dX12_continueOver_553 : decode cX12_continueOver 553 = .ok (.iload 22, 2) := by decide +kernel
theorem dX12_continueOver_555 : decode cX12_continueOver 555 = .ok (.istore 21, 2) := by decide +kernel
theorem dX12_continueOver_557 : decode cX12_continueOver 557 = .ok (.aload_n 0, 1) := by decide +kernel
theorem dX12_continueOver_558 : decode cX12_continueOver 558 = .ok (.iload 6, 2) := by decide +kernel
theorem dX12_continueOver_560 : decode cX12_continueOver 560 = .ok (.bipush 9, 2) := by decide +kernel
theorem dX12_continueOver_562 : decode cX12_continueOver 562 = .ok (.iload 23, 2) := by decide +kernel
theorem dX12_continueOver_564 : decode cX12_continueOver 564 = .ok (.invokevirtual 137, 3) := by decide +kernel
theorem dX12_continueOver_567 : decode cX12_continueOver 567 = .ok (.aload_n 0, 1) := by decide +kernel
theorem dX12_continueOver_568 : decode cX12_continueOver 568 = .ok (.iload 6, 2) := by decide +kernel
theorem dX12_continueOver_570 : decode cX12_continueOver 570 = .ok (.bipush 10, 2) := by decide +kernel
theorem dX12_continueOver_572 : decode cX12_continueOver 572 = .ok (.iload 24, 2) := by decide +kernel
theorem dX12_continueOver_574 : decode cX12_continueOver 574 = .ok (.invokevirtual 137, 3) := by decide +kernel
theorem dX12_continueOver_577 : decode cX12_continueOver 577 = .ok (.iinc 22 1, 3) := by decide +kernel
theorem dX12_continueOver_580 : decode cX12_continueOver 580 = .ok (.goto (-226), 3) := by decide +kernel
theorem dX12_continueOver_583 : decode cX12_continueOver 583 = .ok (.iload 21, 2) := by decide +kernel
theorem dX12_continueOver_585 : decode cX12_continueOver 585 = .ok (.bipush (-9), 2) := by decide +kernel
theorem dX12_continueOver_587 : decode cX12_continueOver 587 = .ok (.if_icmp .eq 29, 3) := by decide +kernel
theorem dX12_continueOver_590 : decode cX12_continueOver 590 = .ok (.aload_n 0, 1) := by decide +kernel
theorem dX12_continueOver_591 : decode cX12_continueOver 591 = .ok (.iload 6, 2) := by decide +kernel
theorem dX12_continueOver_593 : decode cX12_continueOver 593 = .ok (.bipush 7, 2) := by decide +kernel
theorem dX12_continueOver_595 : decode cX12_continueOver 595 = .ok (.aload_n 0, 1) := by decide +kernel
theorem dX12_continueOver_596 : decode cX12_continueOver 596 = .ok (.iload 4, 2) := by decide +kernel
theorem dX12_continueOver_598 : decode cX12_continueOver 598 = .ok (.bipush 7, 2) := by decide +kernel
theorem dX12_continueOver_600 : decode cX12_continueOver 600 = .ok (.invokevirtual 91, 3) := by decide +kernel
theorem dX12_continueOver_603 : decode cX12_continueOver 603 = .ok (.invokevirtual 137, 3) := by decide +kernel
theorem dX12_continueOver_606 : decode cX12_continueOver 606 = .ok (.aload_n 0, 1) := by decide +kernel
theorem dX12_continueOver_607 : decode cX12_continueOver 607 = .ok (.iload 6, 2) := by decide +kernel
theorem dX12_continueOver_609 : decode cX12_continueOver 609 = .ok (.bipush 8, 2) := by decide +kernel
theorem dX12_continueOver_611 : decode cX12_continueOver 611 = .ok (.iload 21, 2) := by decide +kernel
theorem dX12_continueOver_613 : decode cX12_continueOver 613 = .ok (.invokevirtual 137, 3) := by decide +kernel
theorem dX12_continueOver_616 : decode cX12_continueOver 616 = .ok (.iload 21, 2) := by decide +kernel
theorem dX12_continueOver_618 : decode cX12_continueOver 618 = .ok (.ireturn, 1) := by decide +kernel
theorem dX12_continueImage_0 : decode cX12_continueImage 0 = .ok (.aload_n 0, 1) := by decide +kernel
theorem dX12_continueImage_1 : decode cX12_continueImage 1 = .ok (.invokevirtual 103, 3) := by decide +kernel
theorem dX12_continueImage_4 : decode cX12_continueImage 4 = .ok (.aload_n 0, 1) := by decide +kernel
theorem dX12_continueImage_5 : decode cX12_continueImage 5 = .ok (.aload_n 0, 1) := by decide +kernel
theorem dX12_continueImage_6 : decode cX12_continueImage 6 = .ok (.iconst 0, 1) := by decide +kernel
theorem dX12_continueImage_7 : decode cX12_continueImage 7 = .ok (.invokevirtual 293, 3) := by decide +kernel
theorem dX12_continueImage_10 : decode cX12_continueImage 10 = .ok (.invokevirtual 296, 3) := by decide +kernel
theorem dX12_continueImage_13 : decode cX12_continueImage 13 = .ok (.iload_n 1, 1) := by decide +kernel
theorem dX12_continueImage_14 : decode cX12_continueImage 14 = .ok (.iconst 0, 1) := by decide +kernel
theorem dX12_continueImage_15 : decode cX12_continueImage 15 = .ok (.aload_n 0, 1) := by decide +kernel
theorem dX12_continueImage_16 : decode cX12_continueImage 16 = .ok (.getfield 243, 3) := by decide +kernel
theorem dX12_continueImage_19 : decode cX12_continueImage 19 = .ok (.iconst 1, 1) := by decide +kernel
theorem dX12_continueImage_20 : decode cX12_continueImage 20 = .ok (.isub, 1) := by decide +kernel
theorem dX12_continueImage_21 : decode cX12_continueImage 21 = .ok (.invokestatic 87, 3) := by decide +kernel
theorem dX12_continueImage_24 : decode cX12_continueImage 24 = .ok (.ifCond .ne 5, 3) := by decide +kernel
theorem dX12_continueImage_27 : decode cX12_continueImage 27 = .ok (.iconst (-1), 1) := by decide +kernel
theorem dX12_continueImage_28 : decode cX12_continueImage 28 = .ok (.ireturn, 1) := by decide +kernel
theorem dX12_continueImage_29 : decode cX12_continueImage 29 = .ok (.aload_n 0, 1) := by decide +kernel
theorem dX12_continueImage_30 : decode cX12_continueImage 30 = .ok (.iload_n 1, 1) := by decide +kernel
theorem dX12_continueImage_31 : decode cX12_continueImage 31 = .ok (.iload_n 2, 1) := by decide +kernel
theorem dX12_continueImage_32 : decode cX12_continueImage 32 = .ok (.invokevirtual 299, 3) := by decide +kernel
theorem dX12_continueImage_35 : decode cX12_continueImage 35 = .ok (.istore_n 3, 1) := by decide +kernel
theorem dX12_continueImage_36 : decode cX12_continueImage 36 = .ok (.iload_n 3, 1) := by decide +kernel
theorem dX12_continueImage_37 : decode cX12_continueImage 37 = .ok (.bipush (-9), 2) := by decide +kernel
theorem dX12_continueImage_39 : decode cX12_continueImage 39 = .ok (.if_icmp .ne 8, 3) := by decide +kernel
theorem dX12_continueImage_42 : decode cX12_continueImage 42 = .ok (.bipush (-2), 2) := by decide +kernel
theorem dX12_continueImage_44 : decode cX12_continueImage 44 = .ok (.goto 8, 3) := by decide +kernel
theorem dX12_continueImage_47 : decode cX12_continueImage 47 = .ok (.aload_n 0, 1) := by decide +kernel
theorem dX12_continueImage_48 : decode cX12_continueImage 48 = .ok (.iload_n 3, 1) := by decide +kernel
theorem dX12_continueImage_49 : decode cX12_continueImage 49 = .ok (.invokevirtual 106, 3) := by decide +kernel
theorem dX12_continueImage_52 : decode cX12_continueImage 52 = .ok (.ireturn, 1) := by decide +kernel
theorem dX12_spreads_0 : decode cX12_spreads 0 = .ok (.iconst 0, 1) := by decide +kernel
theorem dX12_spreads_1 : decode cX12_spreads 1 = .ok (.istore_n 2, 1) := by decide +kernel
theorem dX12_spreads_2 : decode cX12_spreads 2 = .ok (.iload_n 2, 1) := by decide +kernel
theorem dX12_spreads_3 : decode cX12_spreads 3 = .ok (.aload_n 0, 1) := by decide +kernel
theorem dX12_spreads_4 : decode cX12_spreads 4 = .ok (.getfield 243, 3) := by decide +kernel
theorem dX12_spreads_7 : decode cX12_spreads 7 = .ok (.if_icmp .ge 110, 3) := by decide +kernel
theorem dX12_spreads_10 : decode cX12_spreads 10 = .ok (.iconst 0, 1) := by decide +kernel
theorem dX12_spreads_11 : decode cX12_spreads 11 = .ok (.istore_n 3, 1) := by decide +kernel
theorem dX12_spreads_12 : decode cX12_spreads 12 = .ok (.iload_n 3, 1) := by decide +kernel
theorem dX12_spreads_13 : decode cX12_spreads 13 = .ok (.iconst 2, 1) := by decide +kernel
theorem dX12_spreads_14 : decode cX12_spreads 14 = .ok (.if_icmp .ge 97, 3) := by decide +kernel
theorem dX12_spreads_17 : decode cX12_spreads 17 = .ok (.aload_n 0, 1) := by decide +kernel
theorem dX12_spreads_18 : decode cX12_spreads 18 = .ok (.getfield 68, 3) := by decide +kernel
theorem dX12_spreads_21 : decode cX12_spreads 21 = .ok (.bipush 9, 2) := by decide +kernel
theorem dX12_spreads_23 : decode cX12_spreads 23 = .ok (.iload_n 2, 1) := by decide +kernel
theorem dX12_spreads_24 : decode cX12_spreads 24 = .ok (.imul, 1) := by decide +kernel
theorem dX12_spreads_25 : decode cX12_spreads 25 = .ok (.iconst 2, 1) := by decide +kernel
theorem dX12_spreads_26 : decode cX12_spreads 26 = .ok (.iload_n 3, 1) := by decide +kernel
theorem dX12_spreads_27 : decode cX12_spreads 27 = .ok (.imul, 1) := by decide +kernel
theorem dX12_spreads_28 : decode cX12_spreads 28 = .ok (.iadd, 1) := by decide +kernel
theorem dX12_spreads_29 : decode cX12_spreads 29 = .ok (.iaload, 1) := by decide +kernel
theorem dX12_spreads_30 : decode cX12_spreads 30 = .ok (.istore 4, 2) := by decide +kernel
theorem dX12_spreads_32 : decode cX12_spreads 32 = .ok (.aload_n 0, 1) := by decide +kernel
theorem dX12_spreads_33 : decode cX12_spreads 33 = .ok (.getfield 68, 3) := by decide +kernel
theorem dX12_spreads_36 : decode cX12_spreads 36 = .ok (.bipush 9, 2) := by decide +kernel
theorem dX12_spreads_38 : decode cX12_spreads 38 = .ok (.iload_n 2, 1) := by decide +kernel
theorem dX12_spreads_39 : decode cX12_spreads 39 = .ok (.imul, 1) := by decide +kernel
theorem dX12_spreads_40 : decode cX12_spreads 40 = .ok (.iconst 2, 1) := by decide +kernel
theorem dX12_spreads_41 : decode cX12_spreads 41 = .ok (.iadd, 1) := by decide +kernel
theorem dX12_spreads_42 : decode cX12_spreads 42 = .ok (.iconst 2, 1) := by decide +kernel
theorem dX12_spreads_43 : decode cX12_spreads 43 = .ok (.iload_n 3, 1) := by decide +kernel
theorem dX12_spreads_44 : decode cX12_spreads 44 = .ok (.imul, 1) := by decide +kernel
theorem dX12_spreads_45 : decode cX12_spreads 45 = .ok (.isub, 1) := by decide +kernel
theorem dX12_spreads_46 : decode cX12_spreads 46 = .ok (.iaload, 1) := by decide +kernel
theorem dX12_spreads_47 : decode cX12_spreads 47 = .ok (.istore 5, 2) := by decide +kernel
theorem dX12_spreads_49 : decode cX12_spreads 49 = .ok (.aload_n 0, 1) := by decide +kernel
theorem dX12_spreads_50 : decode cX12_spreads 50 = .ok (.iload 4, 2) := by decide +kernel
theorem dX12_spreads_52 : decode cX12_spreads 52 = .ok (.bipush 7, 2) := by decide +kernel
theorem dX12_spreads_54 : decode cX12_spreads 54 = .ok (.invokevirtual 91, 3) := by decide +kernel
theorem dX12_spreads_57 : decode cX12_spreads 57 = .ok (.iload_n 1, 1) := by decide +kernel
theorem dX12_spreads_58 : decode cX12_spreads 58 = .ok (.if_icmp .ne 47, 3) := by decide +kernel
theorem dX12_spreads_61 : decode cX12_spreads 61 = .ok (.aload_n 0, 1) := by decide +kernel
theorem dX12_spreads_62 : decode cX12_spreads 62 = .ok (.iload 5, 2) := by decide +kernel
theorem dX12_spreads_64 : decode cX12_spreads 64 = .ok (.bipush 7, 2) := by decide +kernel
theorem dX12_spreads_66 : decode cX12_spreads 66 = .ok (.invokevirtual 91, 3) := by decide +kernel
theorem dX12_spreads_69 : decode cX12_spreads 69 = .ok (.bipush (-9), 2) := by decide +kernel
theorem dX12_spreads_71 : decode cX12_spreads 71 = .ok (.if_icmp .ne 34, 3) := by decide +kernel
theorem dX12_spreads_74 : decode cX12_spreads 74 = .ok (.aload_n 0, 1) := by decide +kernel
theorem dX12_spreads_75 : decode cX12_spreads 75 = .ok (.iload 5, 2) := by decide +kernel
theorem dX12_spreads_77 : decode cX12_spreads 77 = .ok (.invokevirtual 302, 3) := by decide +kernel
theorem dX12_spreads_80 : decode cX12_spreads 80 = .ok (.ifCond .ne 25, 3) := by decide +kernel
theorem dX12_spreads_83 : decode cX12_spreads 83 = .ok (.aload_n 0, 1) := by decide +kernel
theorem dX12_spreads_84 : decode cX12_spreads 84 = .ok (.iload_n 2, 1) := by decide +kernel
theorem dX12_spreads_85 : decode cX12_spreads 85 = .ok (.iload_n 3, 1) := by decide +kernel
theorem dX12_spreads_86 : decode cX12_spreads 86 = .ok (.iconst 1, 1) := by decide +kernel
theorem dX12_spreads_87 : decode cX12_spreads 87 = .ok (.if_icmp .ne 7, 3) := by decide +kernel
theorem dX12_spreads_90 : decode cX12_spreads 90 = .ok (.iconst 1, 1) := by decide +kernel
theorem dX12_spreads_91 : decode cX12_spreads 91 = .ok (.goto 4, 3) := by decide +kernel
theorem dX12_spreads_94 : decode cX12_spreads 94 = .ok (.iconst 0, 1) := by decide +kernel
theorem dX12_spreads_95 : decode cX12_spreads 95 = .ok (.invokevirtual 299, 3) := by decide +kernel
theorem dX12_spreads_98 : decode cX12_spreads 98 = .ok (.bipush (-9), 2) := by decide +kernel
theorem dX12_spreads_100 : decode cX12_spreads 100 = .ok (.if_icmp .eq 5, 3) := by decide +kernel
theorem dX12_spreads_103 : decode cX12_spreads 103 = .ok (.iconst 1, 1) := by decide +kernel
theorem dX12_spreads_104 : decode cX12_spreads 104 = .ok (.ireturn, 1) := by decide +kernel
theorem dX12_spreads_105 : decode cX12_spreads 105 = .ok (.iinc 3 1, 3) := by decide +kernel
theorem dX12_spreads_108 : decode cX12_spreads 108 = .ok (.goto (-96), 3) := by decide +kernel
theorem dX12_spreads_111 : decode cX12_spreads 111 = .ok (.iinc 2 1, 3) := by decide +kernel
theorem dX12_spreads_114 : decode cX12_spreads 114 = .ok (.goto (-112), 3) := by decide +kernel
theorem dX12_spreads_117 : decode cX12_spreads 117 = .ok (.iconst 0, 1) := by decide +kernel
theorem dX12_spreads_118 : decode cX12_spreads 118 = .ok (.ireturn, 1) := by decide +kernel
theorem dX12_spreadImage_0 : decode cX12_spreadImage 0 = .ok (.aload_n 0, 1) := by decide +kernel
theorem dX12_spreadImage_1 : decode cX12_spreadImage 1 = .ok (.invokevirtual 103, 3) := by decide +kernel
theorem dX12_spreadImage_4 : decode cX12_spreadImage 4 = .ok (.aload_n 0, 1) := by decide +kernel
theorem dX12_spreadImage_5 : decode cX12_spreadImage 5 = .ok (.iload_n 1, 1) := by decide +kernel
theorem dX12_spreadImage_6 : decode cX12_spreadImage 6 = .ok (.invokevirtual 145, 3) := by decide +kernel
theorem dX12_spreadImage_9 : decode cX12_spreadImage 9 = .ok (.ifCond .ne 5, 3) := by decide +kernel
theorem dX12_spreadImage_12 : decode cX12_spreadImage 12 = .ok (.iconst (-1), 1) := by decide +kernel
theorem dX12_spreadImage_13 : decode cX12_spreadImage 13 = .ok (.ireturn, 1) := by decide +kernel
theorem dX12_spreadImage_14 : decode cX12_spreadImage 14 = .ok (.aload_n 0, 1) := by decide +kernel
theorem dX12_spreadImage_15 : decode cX12_spreadImage 15 = .ok (.iload_n 1, 1) := by decide +kernel
theorem dX12_spreadImage_16 : decode cX12_spreadImage 16 = .ok (.bipush 7, 2) := by decide +kernel
theorem dX12_spreadImage_18 : decode cX12_spreadImage 18 = .ok (.invokevirtual 91, 3) := by decide +kernel
theorem dX12_spreadImage_21 : decode cX12_spreadImage 21 = .ok (.bipush (-9), 2) := by decide +kernel
theorem dX12_spreadImage_23 : decode cX12_spreadImage 23 = .ok (.if_icmp .ne 6, 3) := by decide +kernel
theorem dX12_spreadImage_26 : decode cX12_spreadImage 26 = .ok (.bipush (-2), 2) := by decide +kernel
theorem dX12_spreadImage_28 : decode cX12_spreadImage 28 = .ok (.ireturn, 1) := by decide +kernel
theorem dX12_spreadImage_29 : decode cX12_spreadImage 29 = .ok (.aload_n 0, 1) := by decide +kernel
theorem dX12_spreadImage_30 : decode cX12_spreadImage 30 = .ok (.aload_n 0, 1) := by decide +kernel
theorem dX12_spreadImage_31 : decode cX12_spreadImage 31 = .ok (.iconst 0, 1) := by decide +kernel
theorem dX12_spreadImage_32 : decode cX12_spreadImage 32 = .ok (.invokevirtual 293, 3) := by decide +kernel
theorem dX12_spreadImage_35 : decode cX12_spreadImage 35 = .ok (.invokevirtual 296, 3) := by decide +kernel
theorem dX12_spreadImage_38 : decode cX12_spreadImage 38 = .ok (.iconst 0, 1) := by decide +kernel
theorem dX12_spreadImage_39 : decode cX12_spreadImage 39 = .ok (.istore_n 2, 1) := by decide +kernel
theorem dX12_spreadImage_40 : decode cX12_spreadImage 40 = .ok (.iload_n 2, 1) := by decide +kernel
theorem dX12_spreadImage_41 : decode cX12_spreadImage 41 = .ok (.bipush 10, 2) := by decide +kernel
theorem dX12_spreadImage_43 : decode cX12_spreadImage 43 = .ok (.if_icmp .ge 23, 3) := by decide +kernel
theorem dX12_spreadImage_46 : decode cX12_spreadImage 46 = .ok (.aload_n 0, 1) := by decide +kernel
theorem dX12_spreadImage_47 : decode cX12_spreadImage 47 = .ok (.aload_n 0, 1) := by decide +kernel
theorem dX12_spreadImage_48 : decode cX12_spreadImage 48 = .ok (.iload_n 1, 1) := by decide +kernel
theorem dX12_spreadImage_49 : decode cX12_spreadImage 49 = .ok (.bipush 7, 2) := by decide +kernel
theorem dX12_spreadImage_51 : decode cX12_spreadImage 51 = .ok (.invokevirtual 91, 3) := by decide +kernel
theorem dX12_spreadImage_54 : decode cX12_spreadImage 54 = .ok (.invokevirtual 305, 3) := by decide +kernel
theorem dX12_spreadImage_57 : decode cX12_spreadImage 57 = .ok (.ifCond .eq 9, 3) := by decide +kernel
theorem dX12_spreadImage_60 : decode cX12_spreadImage 60 = .ok (.iinc 2 1, 3) := by decide +kernel
theorem dX12_spreadImage_63 : decode cX12_spreadImage 63 = .ok (.goto (-23), 3) := by decide +kernel
theorem dX12_spreadImage_66 : decode cX12_spreadImage 66 = .ok (.aload_n 0, 1) := by decide +kernel
theorem dX12_spreadImage_67 : decode cX12_spreadImage 67 = .ok (.iload_n 2, 1) := by decide +kernel
theorem dX12_spreadImage_68 : decode cX12_spreadImage 68 = .ok (.invokevirtual 106, 3) := by decide +kernel
theorem dX12_spreadImage_71 : decode cX12_spreadImage 71 = .ok (.ireturn, 1) := by decide +kernel
theorem dX12_finds_0 : decode cX12_finds 0 = .ok (.aload_n 0, 1) := by decide +kernel
theorem dX12_finds_1 : decode cX12_finds 1 = .ok (.getfield 7, 3) := by decide +kernel
theorem dX12_finds_4 : decode cX12_finds 4 = .ok (.sipush 129, 3) := by decide +kernel
theorem dX12_finds_7 : decode cX12_finds 7 = .ok (.iload_n 1, 1) := by decide +kernel
theorem dX12_finds_8 : decode cX12_finds 8 = .ok (.iadd, 1) := by decide +kernel
theorem dX12_finds_9 : decode cX12_finds 9 = .ok (.iaload, 1) := by decide +kernel
theorem dX12_finds_10 : decode cX12_finds 10 = .ok (.istore 6, 2) := by decide +kernel
theorem dX12_finds_12 : decode cX12_finds 12 = .ok (.iload 6, 2) := by decide +kernel
theorem dX12_finds_14 : decode cX12_finds 14 = .ok (.ifCond .eq 8, 3) := by decide +kernel
theorem dX12_finds_17 : decode cX12_finds 17 = .ok (.iload 5, 2) := by decide +kernel
theorem dX12_finds_19 : decode cX12_finds 19 = .ok (.ifCond .gt 4, 3) := by decide +kernel
theorem dX12_finds_22 : decode cX12_finds 22 = .ok (.return_, 1) := by decide +kernel
theorem dX12_finds_23 : decode cX12_finds 23 = .ok (.bipush 6, 2) := by decide +kernel
theorem dX12_finds_25 : decode cX12_finds 25 = .ok (.aload_n 0, 1) := by decide +kernel
theorem dX12_finds_26 : decode cX12_finds 26 = .ok (.getfield 308, 3) := by decide +kernel
theorem dX12_finds_29 : decode cX12_finds 29 = .ok (.imul, 1) := by decide +kernel
theorem dX12_finds_30 : decode cX12_finds 30 = .ok (.istore 7, 2) := by decide +kernel
theorem dX12_finds_32 : decode cX12_finds 32 = .ok (.aload_n 0, 1) := by decide +kernel
theorem dX12_finds_33 : decode cX12_finds 33 = .ok (.getfield 71, 3) := by decide +kernel
theorem dX12_finds_36 : decode cX12_finds 36 = .ok (.iload 7, 2) := by decide +kernel
theorem dX12_finds_38 : decode cX12_finds 38 = .ok (.iload_n 1, 1) := by decide +kernel
theorem dX12_finds_39 : decode cX12_finds 39 = .ok (.iastore, 1) := by decide +kernel
theorem dX12_finds_40 : decode cX12_finds 40 = .ok (.aload_n 0, 1) := by decide +kernel
theorem dX12_finds_41 : decode cX12_finds 41 = .ok (.getfield 71, 3) := by decide +kernel
theorem dX12_finds_44 : decode cX12_finds 44 = .ok (.iload 7, 2) := by decide +kernel
theorem dX12_finds_46 : decode cX12_finds 46 = .ok (.iconst 1, 1) := by decide +kernel
theorem dX12_finds_47 : decode cX12_finds 47 = .ok (.iadd, 1) := by decide +kernel
theorem dX12_finds_48 : decode cX12_finds 48 = .ok (.iload_n 2, 1) := by decide +kernel
theorem dX12_finds_49 : decode cX12_finds 49 = .ok (.iastore, 1) := by decide +kernel
theorem dX12_finds_50 : decode cX12_finds 50 = .ok (.aload_n 0, 1) := by decide +kernel
theorem dX12_finds_51 : decode cX12_finds 51 = .ok (.getfield 71, 3) := by decide +kernel
theorem dX12_finds_54 : decode cX12_finds 54 = .ok (.iload 7, 2) := by decide +kernel
theorem dX12_finds_56 : decode cX12_finds 56 = .ok (.iconst 2, 1) := by decide +kernel
theorem dX12_finds_57 : decode cX12_finds 57 = .ok (.iadd, 1) := by decide +kernel
theorem dX12_finds_58 : decode cX12_finds 58 = .ok (.iload_n 3, 1) := by decide +kernel
theorem dX12_finds_59 : decode cX12_finds 59 = .ok (.iastore, 1) := by decide +kernel
theorem dX12_finds_60 : decode cX12_finds 60 = .ok (.aload_n 0, 1) := by decide +kernel
theorem dX12_finds_61 : decode cX12_finds 61 = .ok (.getfield 71, 3) := by decide +kernel
theorem dX12_finds_64 : decode cX12_finds 64 = .ok (.iload 7, 2) := by decide +kernel
theorem dX12_finds_66 : decode cX12_finds 66 = .ok (.iconst 3, 1) := by decide +kernel
theorem dX12_finds_67 : decode cX12_finds 67 = .ok (.iadd, 1) := by decide +kernel
theorem dX12_finds_68 : decode cX12_finds 68 = .ok (.iload 4, 2) := by decide +kernel
theorem dX12_finds_70 : decode cX12_finds 70 = .ok (.iastore, 1) := by decide +kernel
theorem dX12_finds_71 : decode cX12_finds 71 = .ok (.aload_n 0, 1) := by decide +kernel
theorem dX12_finds_72 : decode cX12_finds 72 = .ok (.getfield 71, 3) := by decide +kernel
theorem dX12_finds_75 : decode cX12_finds 75 = .ok (.iload 7, 2) := by decide +kernel
theorem dX12_finds_77 : decode cX12_finds 77 = .ok (.iconst 4, 1) := by decide +kernel
theorem dX12_finds_78 : decode cX12_finds 78 = .ok (.iadd, 1) := by decide +kernel
theorem dX12_finds_79 : decode cX12_finds 79 = .ok (.iload 5, 2) := by decide +kernel
theorem dX12_finds_81 : decode cX12_finds 81 = .ok (.iastore, 1) := by decide +kernel
theorem dX12_finds_82 : decode cX12_finds 82 = .ok (.aload_n 0, 1) := by decide +kernel
theorem dX12_finds_83 : decode cX12_finds 83 = .ok (.getfield 71, 3) := by decide +kernel
theorem dX12_finds_86 : decode cX12_finds 86 = .ok (.iload 7, 2) := by decide +kernel
theorem dX12_finds_88 : decode cX12_finds 88 = .ok (.iconst 5, 1) := by decide +kernel
theorem dX12_finds_89 : decode cX12_finds 89 = .ok (.iadd, 1) := by decide +kernel
theorem dX12_finds_90 : decode cX12_finds 90 = .ok (.iload 6, 2) := by decide +kernel
theorem dX12_finds_92 : decode cX12_finds 92 = .ok (.iload 5, 2) := by decide +kernel
theorem dX12_finds_94 : decode cX12_finds 94 = .ok (.imul, 1) := by decide +kernel
theorem dX12_finds_95 : decode cX12_finds 95 = .ok (.iastore, 1) := by decide +kernel
theorem dX12_finds_96 : decode cX12_finds 96 = .ok (.aload_n 0, 1) := by decide +kernel
theorem dX12_finds_97 : decode cX12_finds 97 = .ok (.dup, 1) := by decide +kernel
theorem dX12_finds_98 : decode cX12_finds 98 = .ok (.getfield 308, 3) := by decide +kernel
theorem dX12_finds_101 : decode cX12_finds 101 = .ok (.iconst 1, 1) := by decide +kernel
theorem dX12_finds_102 : decode cX12_finds 102 = .ok (.iadd, 1) := by decide +kernel
theorem dX12_finds_103 : decode cX12_finds 103 = .ok (.putfield 308, 3) := by decide +kernel
theorem dX12_finds_106 : decode cX12_finds 106 = .ok (.return_, 1) := by decide +kernel
theorem dX12_isFolded_0 : decode cX12_isFolded 0 = .ok (.iconst 0, 1) := by decide +kernel
theorem dX12_isFolded_1 : decode cX12_isFolded 1 = .ok (.istore_n 3, 1) := by decide +kernel
theorem dX12_isFolded_2 : decode cX12_isFolded 2 = .ok (.iconst 1, 1) := by decide +kernel
theorem dX12_isFolded_3 : decode cX12_isFolded 3 = .ok (.istore 4, 2) := by decide +kernel
theorem dX12_isFolded_5 : decode cX12_isFolded 5 = .ok (.iload 4, 2) := by decide +kernel
theorem dX12_isFolded_7 : decode cX12_isFolded 7 = .ok (.aload_n 0, 1) := by decide +kernel
theorem dX12_isFolded_8 : decode cX12_isFolded 8 = .ok (.invokevirtual 83, 3) := by decide +kernel
theorem dX12_isFolded_11 : decode cX12_isFolded 11 = .ok (.if_icmp .ge 45, 3) := by decide +kernel
theorem dX12_isFolded_14 : decode cX12_isFolded 14 = .ok (.iload_n 3, 1) := by decide +kernel
theorem dX12_isFolded_15 : decode cX12_isFolded 15 = .ok (.aload_n 0, 1) := by decide +kernel
theorem dX12_isFolded_16 : decode cX12_isFolded 16 = .ok (.iload 4, 2) := by decide +kernel
theorem dX12_isFolded_18 : decode cX12_isFolded 18 = .ok (.iconst 0, 1) := by decide +kernel
theorem dX12_isFolded_19 : decode cX12_isFolded 19 = .ok (.invokevirtual 91, 3) := by decide +kernel
theorem dX12_isFolded_22 : decode cX12_isFolded 22 = .ok (.iload_n 1, 1) := by decide +kernel
theorem dX12_isFolded_23 : decode cX12_isFolded 23 = .ok (.if_icmp .ne 24, 3) := by decide +kernel
theorem dX12_isFolded_26 : decode cX12_isFolded 26 = .ok (.aload_n 0, 1) := by decide +kernel
theorem dX12_isFolded_27 : decode cX12_isFolded 27 = .ok (.iload 4, 2) := by decide +kernel
theorem dX12_isFolded_29 : decode cX12_isFolded 29 = .ok (.iconst 1, 1) := by decide +kernel
theorem dX12_isFolded_30 : decode cX12_isFolded 30 = .ok (.invokevirtual 91, 3) := by decide +kernel
theorem dX12_isFolded_33 : decode cX12_isFolded 33 = .ok (.iload_n 2, 1) := by decide +kernel
theorem dX12_isFolded_34 : decode cX12_isFolded 34 = .ok (.if_icmp .ne 13, 3) := by decide +kernel
theorem dX12_isFolded_37 : decode cX12_isFolded 37 = .ok (.aload_n 0, 1) := by decide +kernel
theorem dX12_isFolded_38 : decode cX12_isFolded 38 = .ok (.iload 4, 2) := by decide +kernel
theorem dX12_isFolded_40 : decode cX12_isFolded 40 = .ok (.iconst 3, 1) := by decide +kernel
theorem dX12_isFolded_41 : decode cX12_isFolded 41 = .ok (.invokevirtual 91, 3) := by decide +kernel
theorem dX12_isFolded_44 : decode cX12_isFolded 44 = .ok (.goto 4, 3) := by decide +kernel
theorem dX12_isFolded_47 : decode cX12_isFolded 47 = .ok (.iconst 0, 1) := by decide +kernel
theorem dX12_isFolded_48 : decode cX12_isFolded 48 = .ok (.iadd, 1) := by decide +kernel
theorem dX12_isFolded_49 : decode cX12_isFolded 49 = .ok (.istore_n 3, 1) := by decide +kernel
theorem dX12_isFolded_50 : decode cX12_isFolded 50 = .ok (.iinc 4 1, 3) := by decide +kernel
theorem dX12_isFolded_53 : decode cX12_isFolded 53 = .ok (.goto (-48), 3) := by decide +kernel
theorem dX12_isFolded_56 : decode cX12_isFolded 56 = .ok (.iload_n 1, 1) := by decide +kernel
theorem dX12_isFolded_57 : decode cX12_isFolded 57 = .ok (.ifCond .le 17, 3) := by decide +kernel
theorem dX12_isFolded_60 : decode cX12_isFolded 60 = .ok (.aload_n 0, 1) := by decide +kernel
theorem dX12_isFolded_61 : decode cX12_isFolded 61 = .ok (.iload_n 1, 1) := by decide +kernel
theorem dX12_isFolded_62 : decode cX12_isFolded 62 = .ok (.iconst 1, 1) := by decide +kernel
theorem dX12_isFolded_63 : decode cX12_isFolded 63 = .ok (.invokevirtual 91, 3) := by decide +kernel
theorem dX12_isFolded_66 : decode cX12_isFolded 66 = .ok (.iconst 2, 1) := by decide +kernel
theorem dX12_isFolded_67 : decode cX12_isFolded 67 = .ok (.iadd, 1) := by decide +kernel
theorem dX12_isFolded_68 : decode cX12_isFolded 68 = .ok (.iconst 4, 1) := by decide +kernel
theorem dX12_isFolded_69 : decode cX12_isFolded 69 = .ok (.irem, 1) := by decide +kernel
theorem dX12_isFolded_70 : decode cX12_isFolded 70 = .ok (.iload_n 2, 1) := by decide +kernel
theorem dX12_isFolded_71 : decode cX12_isFolded 71 = .ok (.if_icmp .eq 13, 3) := by decide +kernel
theorem dX12_isFolded_74 : decode cX12_isFolded 74 = .ok (.iload_n 3, 1) := by decide +kernel
theorem dX12_isFolded_75 : decode cX12_isFolded 75 = .ok (.aload_n 0, 1) := by decide +kernel
theorem dX12_isFolded_76 : decode cX12_isFolded 76 = .ok (.iload_n 1, 1) := by decide +kernel
theorem dX12_isFolded_77 : decode cX12_isFolded 77 = .ok (.iload_n 2, 1) := by decide +kernel
theorem dX12_isFolded_78 : decode cX12_isFolded 78 = .ok (.invokevirtual 123, 3) := by decide +kernel
theorem dX12_isFolded_81 : decode cX12_isFolded 81 = .ok (.if_icmp .ne 7, 3) := by decide +kernel
theorem dX12_isFolded_84 : decode cX12_isFolded 84 = .ok (.iconst 1, 1) := by decide +kernel
theorem dX12_isFolded_85 : decode cX12_isFolded 85 = .ok (.goto 4, 3) := by decide +kernel
theorem dX12_isFolded_88 : decode cX12_isFolded 88 = .ok (.iconst 0, 1) := by decide +kernel
theorem dX12_isFolded_89 : decode cX12_isFolded 89 = .ok (.ireturn, 1) := by decide +kernel
theorem dX12_stripOf_0 : decode cX12_stripOf 0 = .ok (.aload_n 0, 1) := by decide +kernel
theorem dX12_stripOf_1 : decode cX12_stripOf 1 = .ok (.iload_n 1, 1) := by decide +kernel
theorem dX12_stripOf_2 : decode cX12_stripOf 2 = .ok (.iload_n 2, 1) := by decide +kernel
theorem dX12_stripOf_3 : decode cX12_stripOf 3 = .ok (.invokevirtual 281, 3) := by decide +kernel
theorem dX12_stripOf_6 : decode cX12_stripOf 6 = .ok (.istore_n 3, 1) := by decide +kernel
theorem dX12_stripOf_7 : decode cX12_stripOf 7 = .ok (.iload_n 3, 1) := by decide +kernel
theorem dX12_stripOf_8 : decode cX12_stripOf 8 = .ok (.aload_n 0, 1) := by decide +kernel
theorem dX12_stripOf_9 : decode cX12_stripOf 9 = .ok (.iconst 1, 1) := by decide +kernel
theorem dX12_stripOf_10 : decode cX12_stripOf 10 = .ok (.invokevirtual 293, 3) := by decide +kernel
theorem dX12_stripOf_13 : decode cX12_stripOf 13 = .ok (.invokestatic 110, 3) := by decide +kernel
theorem dX12_stripOf_16 : decode cX12_stripOf 16 = .ok (.istore 4, 2) := by decide +kernel
theorem dX12_stripOf_18 : decode cX12_stripOf 18 = .ok (.iload_n 3, 1) := by decide +kernel
theorem dX12_stripOf_19 : decode cX12_stripOf 19 = .ok (.ifCond .le 8, 3) := by decide +kernel
theorem dX12_stripOf_22 : decode cX12_stripOf 22 = .ok (.iload 4, 2) := by decide +kernel
theorem dX12_stripOf_24 : decode cX12_stripOf 24 = .ok (.ifCond .ne 5, 3) := by decide +kernel
theorem dX12_stripOf_27 : decode cX12_stripOf 27 = .ok (.iconst 0, 1) := by decide +kernel
theorem dX12_stripOf_28 : decode cX12_stripOf 28 = .ok (.ireturn, 1) := by decide +kernel
theorem dX12_stripOf_29 : decode cX12_stripOf 29 = .ok (.aload_n 0, 1) := by decide +kernel
theorem dX12_stripOf_30 : decode cX12_stripOf 30 = .ok (.iload_n 1, 1) := by decide +kernel
theorem dX12_stripOf_31 : decode cX12_stripOf 31 = .ok (.bipush 9, 2) := by decide +kernel
theorem dX12_stripOf_33 : decode cX12_stripOf 33 = .ok (.invokevirtual 91, 3) := by decide +kernel
theorem dX12_stripOf_36 : decode cX12_stripOf 36 = .ok (.istore 5, 2) := by decide +kernel
theorem dX12_stripOf_38 : decode cX12_stripOf 38 = .ok (.aload_n 0, 1) := by decide +kernel
theorem dX12_stripOf_39 : decode cX12_stripOf 39 = .ok (.iload_n 1, 1) := by decide +kernel
theorem dX12_stripOf_40 : decode cX12_stripOf 40 = .ok (.bipush 10, 2) := by decide +kernel
theorem dX12_stripOf_42 : decode cX12_stripOf 42 = .ok (.invokevirtual 91, 3) := by decide +kernel
theorem dX12_stripOf_45 : decode cX12_stripOf 45 = .ok (.istore 6, 2) := by decide +kernel
theorem dX12_stripOf_47 : decode cX12_stripOf 47 = .ok (.iload_n 2, 1) := by decide +kernel
theorem dX12_stripOf_48 : decode cX12_stripOf 48 = .ok (.iconst 2, 1) := by decide +kernel
theorem dX12_stripOf_49 : decode cX12_stripOf 49 = .ok (.irem, 1) := by decide +kernel
theorem dX12_stripOf_50 : decode cX12_stripOf 50 = .ok (.ifCond .ne 7, 3) := by decide +kernel
theorem dX12_stripOf_53 : decode cX12_stripOf 53 = .ok (.iconst 1, 1) := by decide +kernel
theorem dX12_stripOf_54 : decode cX12_stripOf 54 = .ok (.goto 4, 3) := by decide +kernel
theorem dX12_stripOf_57 : decode cX12_stripOf 57 = .ok (.iconst 0, 1) := by decide +kernel
theorem dX12_stripOf_58 : decode cX12_stripOf 58 = .ok (.istore 7, 2) := by decide +kernel
theorem dX12_stripOf_60 : decode cX12_stripOf 60 = .ok (.aload_n 0, 1) := by decide +kernel
theorem dX12_stripOf_61 : decode cX12_stripOf 61 = .ok (.getfield 74, 3) := by decide +kernel
theorem dX12_stripOf_64 : decode cX12_stripOf 64 = .ok (.iconst 0, 1) := by decide +kernel
theorem dX12_stripOf_65 : decode cX12_stripOf 65 = .ok (.iload 7, 2) := by decide +kernel
theorem dX12_stripOf_67 : decode cX12_stripOf 67 = .ok (.ifCond .eq 19, 3) := by decide +kernel
theorem dX12_stripOf_70 : decode cX12_stripOf 70 = .ok (.aload_n 0, 1) := by decide +kernel
theorem dX12_stripOf_71 : decode cX12_stripOf 71 = .ok (.getfield 26, 3) := by decide +kernel
theorem dX12_stripOf_74 : decode cX12_stripOf 74 = .ok (.iload_n 1, 1) := by decide +kernel
theorem dX12_stripOf_75 : decode cX12_stripOf 75 = .ok (.iaload, 1) := by decide +kernel
theorem dX12_stripOf_76 : decode cX12_stripOf 76 = .ok (.iconst 0, 1) := by decide +kernel
theorem dX12_stripOf_77 : decode cX12_stripOf 77 = .ok (.iload 5, 2) := by decide +kernel
theorem dX12_stripOf_79 : decode cX12_stripOf 79 = .ok (.invokestatic 113, 3) := by decide +kernel
theorem dX12_stripOf_82 : decode cX12_stripOf 82 = .ok (.iadd, 1) := by decide +kernel
theorem dX12_stripOf_83 : decode cX12_stripOf 83 = .ok (.goto 33, 3) := by decide +kernel
theorem dX12_stripOf_86 : decode cX12_stripOf 86 = .ok (.iload_n 2, 1) := by decide +kernel
theorem dX12_stripOf_87 : decode cX12_stripOf 87 = .ok (.iconst 1, 1) := by decide +kernel
theorem dX12_stripOf_88 : decode cX12_stripOf 88 = .ok (.if_icmp .ne 19, 3) := by decide +kernel
theorem dX12_stripOf_91 : decode cX12_stripOf 91 = .ok (.aload_n 0, 1) := by decide +kernel
theorem dX12_stripOf_92 : decode cX12_stripOf 92 = .ok (.getfield 26, 3) := by decide +kernel
theorem dX12_stripOf_95 : decode cX12_stripOf 95 = .ok (.iload_n 1, 1) := by decide +kernel
theorem dX12_stripOf_96 : decode cX12_stripOf 96 = .ok (.iaload, 1) := by decide +kernel
theorem dX12_stripOf_97 : decode cX12_stripOf 97 = .ok (.aload_n 0, 1) := by decide +kernel
theorem dX12_stripOf_98 : decode cX12_stripOf 98 = .ok (.getfield 32, 3) := by decide +kernel
theorem dX12_stripOf_101 : decode cX12_stripOf 101 = .ok (.iload_n 1, 1) := by decide +kernel
theorem dX12_stripOf_102 : decode cX12_stripOf 102 = .ok (.iaload, 1) := by decide +kernel
theorem dX12_stripOf_103 : decode cX12_stripOf 103 = .ok (.iadd, 1) := by decide +kernel
theorem dX12_stripOf_104 : decode cX12_stripOf 104 = .ok (.goto 12, 3) := by decide +kernel
theorem dX12_stripOf_107 : decode cX12_stripOf 107 = .ok (.aload_n 0, 1) := by decide +kernel
theorem dX12_stripOf_108 : decode cX12_stripOf 108 = .ok (.getfield 26, 3) := by decide +kernel
theorem dX12_stripOf_111 : decode cX12_stripOf 111 = .ok (.iload_n 1, 1) := by decide +kernel
theorem dX12_stripOf_112 : decode cX12_stripOf 112 = .ok (.iaload, 1) := by decide +kernel
theorem dX12_stripOf_113 : decode cX12_stripOf 113 = .ok (.iload 4, 2) := by decide +kernel
theorem dX12_stripOf_115 : decode cX12_stripOf 115 = .ok (.isub, 1) := by decide +kernel
theorem dX12_stripOf_116 : decode cX12_stripOf 116 = .ok (.iastore, 1) := by decide +kernel
theorem dX12_stripOf_117 : decode cX12_stripOf 117 = .ok (.aload_n 0, 1) := by decide +kernel
theorem dX12_stripOf_118 : decode cX12_stripOf 118 = .ok (.getfield 74, 3) := by decide +kernel
theorem dX12_stripOf_121 : decode cX12_stripOf 121 = .ok (.iconst 1, 1) := by decide +kernel
theorem dX12_stripOf_122 : decode cX12_stripOf 122 = .ok (.iload 7, 2) := by decide +kernel
theorem dX12_stripOf_124 : decode cX12_stripOf 124 = .ok (.ifCond .eq 31, 3) := by decide +kernel
theorem dX12_stripOf_127 : decode cX12_stripOf 127 = .ok (.aload_n 0, 1) := by decide +kernel
theorem dX12_stripOf_128 : decode cX12_stripOf 128 = .ok (.getfield 26, 3) := by decide +kernel
theorem dX12_stripOf_131 : decode cX12_stripOf 131 = .ok (.iload_n 1, 1) := by decide +kernel
theorem dX12_stripOf_132 : decode cX12_stripOf 132 = .ok (.iaload, 1) := by decide +kernel
theorem dX12_stripOf_133 : decode cX12_stripOf 133 = .ok (.aload_n 0, 1) := by decide +kernel
theorem dX12_stripOf_134 : decode cX12_stripOf 134 = .ok (.getfield 32, 3) := by decide +kernel
theorem dX12_stripOf_137 : decode cX12_stripOf 137 = .ok (.iload_n 1, 1) := by decide +kernel
theorem dX12_stripOf_138 : decode cX12_stripOf 138 = .ok (.iaload, 1) := by decide +kernel
theorem dX12_stripOf_139 : decode cX12_stripOf 139 = .ok (.iload 5, 2) := by decide +kernel
theorem dX12_stripOf_141 : decode cX12_stripOf 141 = .ok (.aload_n 0, 1) := by decide +kernel
theorem dX12_stripOf_142 : decode cX12_stripOf 142 = .ok (.iload_n 1, 1) := by decide +kernel
theorem dX12_stripOf_143 : decode cX12_stripOf 143 = .ok (.iconst 0, 1) := by decide +kernel
theorem dX12_stripOf_144 : decode cX12_stripOf 144 = .ok (.invokevirtual 260, 3) := by decide +kernel
theorem dX12_stripOf_147 : decode cX12_stripOf 147 = .ok (.iadd, 1) := by decide +kernel
theorem dX12_stripOf_148 : decode cX12_stripOf 148 = .ok (.invokestatic 110, 3) := by decide +kernel
theorem dX12_stripOf_151 : decode cX12_stripOf 151 = .ok (.iadd, 1) := by decide +kernel
theorem dX12_stripOf_152 : decode cX12_stripOf 152 = .ok (.goto 12, 3) := by decide +kernel
theorem dX12_stripOf_155 : decode cX12_stripOf 155 = .ok (.aload_n 0, 1) := by decide +kernel
theorem dX12_stripOf_156 : decode cX12_stripOf 156 = .ok (.getfield 74, 3) := by decide +kernel
theorem dX12_stripOf_159 : decode cX12_stripOf 159 = .ok (.iconst 0, 1) := by decide +kernel
theorem dX12_stripOf_160 : decode cX12_stripOf 160 = .ok (.iaload, 1) := by decide +kernel
theorem dX12_stripOf_161 : decode cX12_stripOf 161 = .ok (.iload 4, 2) := by decide +kernel
theorem dX12_stripOf_163 : decode cX12_stripOf 163 = .ok (.iadd, 1) := by decide +kernel
theorem dX12_stripOf_164 : decode cX12_stripOf 164 = .ok (.iastore, 1) := by decide +kernel
theorem dX12_stripOf_165 : decode cX12_stripOf 165 = .ok (.aload_n 0, 1) := by decide +kernel
theorem dX12_stripOf_166 : decode cX12_stripOf 166 = .ok (.getfield 74, 3) := by decide +kernel
theorem dX12_stripOf_169 : decode cX12_stripOf 169 = .ok (.iconst 2, 1) := by decide +kernel
theorem dX12_stripOf_170 : decode cX12_stripOf 170 = .ok (.iload 7, 2) := by decide +kernel
theorem dX12_stripOf_172 : decode cX12_stripOf 172 = .ok (.ifCond .ne 19, 3) := by decide +kernel
theorem dX12_stripOf_175 : decode cX12_stripOf 175 = .ok (.aload_n 0, 1) := by decide +kernel
theorem dX12_stripOf_176 : decode cX12_stripOf 176 = .ok (.getfield 29, 3) := by decide +kernel
theorem dX12_stripOf_179 : decode cX12_stripOf 179 = .ok (.iload_n 1, 1) := by decide +kernel
theorem dX12_stripOf_180 : decode cX12_stripOf 180 = .ok (.iaload, 1) := by decide +kernel
theorem dX12_stripOf_181 : decode cX12_stripOf 181 = .ok (.iconst 0, 1) := by decide +kernel
theorem dX12_stripOf_182 : decode cX12_stripOf 182 = .ok (.iload 6, 2) := by decide +kernel
theorem dX12_stripOf_184 : decode cX12_stripOf 184 = .ok (.invokestatic 113, 3) := by decide +kernel
theorem dX12_stripOf_187 : decode cX12_stripOf 187 = .ok (.iadd, 1) := by decide +kernel
theorem dX12_stripOf_188 : decode cX12_stripOf 188 = .ok (.goto 33, 3) := by decide +kernel
theorem dX12_stripOf_191 : decode cX12_stripOf 191 = .ok (.iload_n 2, 1) := by decide +kernel
theorem dX12_stripOf_192 : decode cX12_stripOf 192 = .ok (.iconst 2, 1) := by decide +kernel
theorem dX12_stripOf_193 : decode cX12_stripOf 193 = .ok (.if_icmp .ne 19, 3) := by decide +kernel
theorem dX12_stripOf_196 : decode cX12_stripOf 196 = .ok (.aload_n 0, 1) := by decide +kernel
theorem dX12_stripOf_197 : decode cX12_stripOf 197 = .ok (.getfield 29, 3) := by decide +kernel
theorem dX12_stripOf_200 : decode cX12_stripOf 200 = .ok (.iload_n 1, 1) := by decide +kernel
theorem dX12_stripOf_201 : decode cX12_stripOf 201 = .ok (.iaload, 1) := by decide +kernel
theorem dX12_stripOf_202 : decode cX12_stripOf 202 = .ok (.aload_n 0, 1) := by decide +kernel
theorem dX12_stripOf_203 : decode cX12_stripOf 203 = .ok (.getfield 35, 3) := by decide +kernel
theorem dX12_stripOf_206 : decode cX12_stripOf 206 = .ok (.iload_n 1, 1) := by decide +kernel
theorem dX12_stripOf_207 : decode cX12_stripOf 207 = .ok (.iaload, 1) := by decide +kernel
theorem dX12_stripOf_208 : decode cX12_stripOf 208 = .ok (.iadd, 1) := by decide +kernel
theorem dX12_stripOf_209 : decode cX12_stripOf 209 = .ok (.goto 12, 3) := by decide +kernel
theorem dX12_stripOf_212 : decode cX12_stripOf 212 = .ok (.aload_n 0, 1) := by decide +kernel
theorem dX12_stripOf_213 : decode cX12_stripOf 213 = .ok (.getfield 29, 3) := by decide +kernel
theorem dX12_stripOf_216 : decode cX12_stripOf 216 = .ok (.iload_n 1, 1) := by decide +kernel
theorem dX12_stripOf_217 : decode cX12_stripOf 217 = .ok (.iaload, 1) := by decide +kernel
theorem dX12_stripOf_218 : decode cX12_stripOf 218 = .ok (.iload 4, 2) := by decide +kernel
theorem dX12_stripOf_220 : decode cX12_stripOf 220 = .ok (.isub, 1) := by decide +kernel
theorem dX12_stripOf_221 : decode cX12_stripOf 221 = .ok (.iastore, 1) := by decide +kernel
theorem dX12_stripOf_222 : decode cX12_stripOf 222 = .ok (.aload_n 0, 1) := by decide +kernel
theorem dX12_stripOf_223 : decode cX12_stripOf 223 = .ok (.getfield 74, 3) := by decide +kernel
theorem dX12_stripOf_226 : decode cX12_stripOf 226 = .ok (.iconst 3, 1) := by decide +kernel
theorem dX12_stripOf_227 : decode cX12_stripOf 227 = .ok (.iload 7, 2) := by decide +kernel
theorem dX12_stripOf_229 : decode cX12_stripOf 229 = .ok (.ifCond .ne 31, 3) := by decide +kernel
theorem dX12_stripOf_232 : decode cX12_stripOf 232 = .ok (.aload_n 0, 1) := by decide +kernel
theorem dX12_stripOf_233 : decode cX12_stripOf 233 = .ok (.getfield 29, 3) := by decide +kernel
theorem dX12_stripOf_236 : decode cX12_stripOf 236 = .ok (.iload_n 1, 1) := by decide +kernel
theorem dX12_stripOf_237 : decode cX12_stripOf 237 = .ok (.iaload, 1) := by decide +kernel
theorem dX12_stripOf_238 : decode cX12_stripOf 238 = .ok (.aload_n 0, 1) := by decide +kernel
theorem dX12_stripOf_239 : decode cX12_stripOf 239 = .ok (.getfield 35, 3) := by decide +kernel
theorem dX12_stripOf_242 : decode cX12_stripOf 242 = .ok (.iload_n 1, 1) := by decide +kernel
theorem dX12_stripOf_243 : decode cX12_stripOf 243 = .ok (.iaload, 1) := by decide +kernel
theorem dX12_stripOf_244 : decode cX12_stripOf 244 = .ok (.iload 6, 2) := by decide +kernel
theorem dX12_stripOf_246 : decode cX12_stripOf 246 = .ok (.aload_n 0, 1) := by decide +kernel
theorem dX12_stripOf_247 : decode cX12_stripOf 247 = .ok (.iload_n 1, 1) := by decide +kernel
theorem dX12_stripOf_248 : decode cX12_stripOf 248 = .ok (.iconst 1, 1) := by decide +kernel
theorem dX12_stripOf_249 : decode cX12_stripOf 249 = .ok (.invokevirtual 260, 3) := by decide +kernel
theorem dX12_stripOf_252 : decode cX12_stripOf 252 = .ok (.iadd, 1) := by decide +kernel
theorem dX12_stripOf_253 : decode cX12_stripOf 253 = .ok (.invokestatic 110, 3) := by decide +kernel
theorem dX12_stripOf_256 : decode cX12_stripOf 256 = .ok (.iadd, 1) := by decide +kernel
theorem dX12_stripOf_257 : decode cX12_stripOf 257 = .ok (.goto 12, 3) := by decide +kernel
theorem dX12_stripOf_260 : decode cX12_stripOf 260 = .ok (.aload_n 0, 1) := by decide +kernel
theorem dX12_stripOf_261 : decode cX12_stripOf 261 = .ok (.getfield 74, 3) := by decide +kernel
theorem dX12_stripOf_264 : decode cX12_stripOf 264 = .ok (.iconst 2, 1) := by decide +kernel
theorem dX12_stripOf_265 : decode cX12_stripOf 265 = .ok (.iaload, 1) := by decide +kernel
theorem dX12_stripOf_266 : decode cX12_stripOf 266 = .ok (.iload 4, 2) := by decide +kernel
theorem dX12_stripOf_268 : decode cX12_stripOf 268 = .ok (.iadd, 1) := by decide +kernel
theorem dX12_stripOf_269 : decode cX12_stripOf 269 = .ok (.iastore, 1) := by decide +kernel
theorem dX12_stripOf_270 : decode cX12_stripOf 270 = .ok (.iload 4, 2) := by decide +kernel
theorem dX12_stripOf_272 : decode cX12_stripOf 272 = .ok (.ireturn, 1) := by decide +kernel
theorem dX12_findIntrusions_0 : decode cX12_findIntrusions 0 = .ok (.aload_n 0, 1) := by decide +kernel
theorem dX12_findIntrusions_1 : decode cX12_findIntrusions 1 = .ok (.iload_n 1, 1) := by decide +kernel
theorem dX12_findIntrusions_2 : decode cX12_findIntrusions 2 = .ok (.iload_n 2, 1) := by decide +kernel
theorem dX12_findIntrusions_3 : decode cX12_findIntrusions 3 = .ok (.invokevirtual 311, 3) := by decide +kernel
theorem dX12_findIntrusions_6 : decode cX12_findIntrusions 6 = .ok (.ifCond .ne 4, 3) := by decide +kernel
theorem dX12_findIntrusions_9 : decode cX12_findIntrusions 9 = .ok (.return_, 1) := by decide +kernel
theorem dX12_findIntrusions_10 : decode cX12_findIntrusions 10 = .ok (.iconst 0, 1) := by decide +kernel
theorem dX12_findIntrusions_11 : decode cX12_findIntrusions 11 = .ok (.istore_n 3, 1) := by decide +kernel
theorem dX12_findIntrusions_12 : decode cX12_findIntrusions 12 = .ok (.iload_n 3, 1) := by decide +kernel
theorem dX12_findIntrusions_13 : decode cX12_findIntrusions 13 = .ok (.aload_n 0, 1) := by decide +kernel
theorem dX12_findIntrusions_14 : decode cX12_findIntrusions 14 = .ok (.invokevirtual 83, 3) := by decide +kernel
theorem dX12_findIntrusions_17 : decode cX12_findIntrusions 17 = .ok (.if_icmp .ge 193, 3) := by decide +kernel
theorem dX12_findIntrusions_20 : decode cX12_findIntrusions 20 = .ok (.iload_n 3, 1) := by decide +kernel
theorem dX12_findIntrusions_21 : decode cX12_findIntrusions 21 = .ok (.ifCond .le 27, 3) := by decide +kernel
theorem dX12_findIntrusions_24 : decode cX12_findIntrusions 24 = .ok (.aload_n 0, 1) := by decide +kernel
theorem dX12_findIntrusions_25 : decode cX12_findIntrusions 25 = .ok (.iload_n 3, 1) := by decide +kernel
theorem dX12_findIntrusions_26 : decode cX12_findIntrusions 26 = .ok (.iconst 0, 1) := by decide +kernel
theorem dX12_findIntrusions_27 : decode cX12_findIntrusions 27 = .ok (.invokevirtual 91, 3) := by decide +kernel
theorem dX12_findIntrusions_30 : decode cX12_findIntrusions 30 = .ok (.iload_n 1, 1) := by decide +kernel
theorem dX12_findIntrusions_31 : decode cX12_findIntrusions 31 = .ok (.if_icmp .ne 17, 3) := by decide +kernel
theorem dX12_findIntrusions_34 : decode cX12_findIntrusions 34 = .ok (.aload_n 0, 1) := by decide +kernel
theorem dX12_findIntrusions_35 : decode cX12_findIntrusions 35 = .ok (.iload_n 3, 1) := by decide +kernel
theorem dX12_findIntrusions_36 : decode cX12_findIntrusions 36 = .ok (.iconst 1, 1) := by decide +kernel
theorem dX12_findIntrusions_37 : decode cX12_findIntrusions 37 = .ok (.invokevirtual 91, 3) := by decide +kernel
theorem dX12_findIntrusions_40 : decode cX12_findIntrusions 40 = .ok (.iload_n 2, 1) := by decide +kernel
theorem dX12_findIntrusions_41 : decode cX12_findIntrusions 41 = .ok (.if_icmp .ne 7, 3) := by decide +kernel
theorem dX12_findIntrusions_44 : decode cX12_findIntrusions 44 = .ok (.iconst 1, 1) := by decide +kernel
theorem dX12_findIntrusions_45 : decode cX12_findIntrusions 45 = .ok (.goto 4, 3) := by decide +kernel
theorem dX12_findIntrusions_48 : decode cX12_findIntrusions 48 = .ok (.iconst 0, 1) := by decide +kernel
theorem dX12_findIntrusions_49 : decode cX12_findIntrusions 49 = .ok (.istore 4, 2) := by decide +kernel
theorem dX12_findIntrusions_51 : decode cX12_findIntrusions 51 = .ok (.iload_n 1, 1) := by decide +kernel
theorem dX12_findIntrusions_52 : decode cX12_findIntrusions 52 = .ok (.ifCond .le 31, 3) := by decide +kernel
theorem dX12_findIntrusions_55 : decode cX12_findIntrusions 55 = .ok (.aload_n 0, 1) := by decide +kernel
theorem dX12_findIntrusions_56 : decode cX12_findIntrusions 56 = .ok (.iload_n 1, 1) := by decide +kernel
theorem dX12_findIntrusions_57 : decode cX12_findIntrusions 57 = .ok (.iconst 0, 1) := by decide +kernel
theorem dX12_findIntrusions_58 : decode cX12_findIntrusions 58 = .ok (.invokevirtual 91, 3) := by decide +kernel
theorem dX12_findIntrusions_61 : decode cX12_findIntrusions 61 = .ok (.iload_n 3, 1) := by decide +kernel
theorem dX12_findIntrusions_62 : decode cX12_findIntrusions 62 = .ok (.if_icmp .ne 21, 3) := by decide +kernel
theorem dX12_findIntrusions_65 : decode cX12_findIntrusions 65 = .ok (.aload_n 0, 1) := by decide +kernel
theorem dX12_findIntrusions_66 : decode cX12_findIntrusions 66 = .ok (.iload_n 1, 1) := by decide +kernel
theorem dX12_findIntrusions_67 : decode cX12_findIntrusions 67 = .ok (.iconst 1, 1) := by decide +kernel
theorem dX12_findIntrusions_68 : decode cX12_findIntrusions 68 = .ok (.invokevirtual 91, 3) := by decide +kernel
theorem dX12_findIntrusions_71 : decode cX12_findIntrusions 71 = .ok (.iconst 2, 1) := by decide +kernel
theorem dX12_findIntrusions_72 : decode cX12_findIntrusions 72 = .ok (.iadd, 1) := by decide +kernel
theorem dX12_findIntrusions_73 : decode cX12_findIntrusions 73 = .ok (.iconst 4, 1) := by decide +kernel
theorem dX12_findIntrusions_74 : decode cX12_findIntrusions 74 = .ok (.irem, 1) := by decide +kernel
theorem dX12_findIntrusions_75 : decode cX12_findIntrusions 75 = .ok (.iload_n 2, 1) := by decide +kernel
theorem dX12_findIntrusions_76 : decode cX12_findIntrusions 76 = .ok (.if_icmp .ne 7, 3) := by decide +kernel
theorem dX12_findIntrusions_79 : decode cX12_findIntrusions 79 = .ok (.iconst 1, 1) := by decide +kernel
theorem dX12_findIntrusions_80 : decode cX12_findIntrusions 80 = .ok (.goto 4, 3) := by decide +kernel
theorem dX12_findIntrusions_83 : decode cX12_findIntrusions 83 = .ok (.iconst 0, 1) := by decide +kernel
theorem dX12_findIntrusions_84 : decode cX12_findIntrusions 84 = .ok (.istore 5, 2) := by decide +kernel
theorem dX12_findIntrusions_86 : decode cX12_findIntrusions 86 = .ok (.aload_n 0, 1) := by decide +kernel
theorem dX12_findIntrusions_87 : decode cX12_findIntrusions 87 = .ok (.getfield 74, 3) := by decide +kernel
theorem dX12_findIntrusions_90 : decode cX12_findIntrusions 90 = .ok (.iconst 0, 1) := by decide +kernel
theorem dX12_findIntrusions_91 : decode cX12_findIntrusions 91 = .ok (.iaload, 1) := by decide +kernel
theorem dX12_findIntrusions_92 : decode cX12_findIntrusions 92 = .ok (.aload_n 0, 1) := by decide +kernel
theorem dX12_findIntrusions_93 : decode cX12_findIntrusions 93 = .ok (.getfield 74, 3) := by decide +kernel
theorem dX12_findIntrusions_96 : decode cX12_findIntrusions 96 = .ok (.iconst 1, 1) := by decide +kernel
theorem dX12_findIntrusions_97 : decode cX12_findIntrusions 97 = .ok (.iaload, 1) := by decide +kernel
theorem dX12_findIntrusions_98 : decode cX12_findIntrusions 98 = .ok (.aload_n 0, 1) := by decide +kernel
theorem dX12_findIntrusions_99 : decode cX12_findIntrusions 99 = .ok (.getfield 26, 3) := by decide +kernel
theorem dX12_findIntrusions_102 : decode cX12_findIntrusions 102 = .ok (.iload_n 3, 1) := by decide +kernel
theorem dX12_findIntrusions_103 : decode cX12_findIntrusions 103 = .ok (.iaload, 1) := by decide +kernel
theorem dX12_findIntrusions_104 : decode cX12_findIntrusions 104 = .ok (.aload_n 0, 1) := by decide +kernel
theorem dX12_findIntrusions_105 : decode cX12_findIntrusions 105 = .ok (.getfield 26, 3) := by decide +kernel
theorem dX12_findIntrusions_108 : decode cX12_findIntrusions 108 = .ok (.iload_n 3, 1) := by decide +kernel
theorem dX12_findIntrusions_109 : decode cX12_findIntrusions 109 = .ok (.iaload, 1) := by decide +kernel
theorem dX12_findIntrusions_110 : decode cX12_findIntrusions 110 = .ok (.aload_n 0, 1) := by decide +kernel
theorem dX12_findIntrusions_111 : decode cX12_findIntrusions 111 = .ok (.getfield 32, 3) := by decide +kernel
theorem dX12_findIntrusions_114 : decode cX12_findIntrusions 114 = .ok (.iload_n 3, 1) := by decide +kernel
theorem dX12_findIntrusions_115 : decode cX12_findIntrusions 115 = .ok (.iaload, 1) := by decide +kernel
theorem dX12_findIntrusions_116 : decode cX12_findIntrusions 116 = .ok (.iadd, 1) := by decide +kernel
theorem dX12_findIntrusions_117 : decode cX12_findIntrusions 117 = .ok (.invokestatic 116, 3) := by decide +kernel
theorem dX12_findIntrusions_120 : decode cX12_findIntrusions 120 = .ok (.istore 6, 2) := by decide +kernel
theorem dX12_findIntrusions_122 : decode cX12_findIntrusions 122 = .ok (.aload_n 0, 1) := by decide +kernel
theorem dX12_findIntrusions_123 : decode cX12_findIntrusions 123 = .ok (.getfield 74, 3) := by decide +kernel
theorem dX12_findIntrusions_126 : decode cX12_findIntrusions 126 = .ok (.iconst 2, 1) := by decide +kernel
theorem dX12_findIntrusions_127 : decode cX12_findIntrusions 127 = .ok (.iaload, 1) := by decide +kernel
theorem dX12_findIntrusions_128 : decode cX12_findIntrusions 128 = .ok (.aload_n 0, 1) := by decide +kernel
theorem dX12_findIntrusions_129 : decode cX12_findIntrusions 129 = .ok (.getfield 74, 3) := by decide +kernel
theorem dX12_findIntrusions_132 : decode cX12_findIntrusions 132 = .ok (.iconst 3, 1) := by decide +kernel
theorem dX12_findIntrusions_133 : decode cX12_findIntrusions 133 = .ok (.iaload, 1) := by decide +kernel
theorem dX12_findIntrusions_134 : decode cX12_findIntrusions 134 = .ok (.aload_n 0, 1) := by decide +kernel
theorem dX12_findIntrusions_135 : decode cX12_findIntrusions 135 = .ok (.getfield 29, 3) := by decide +kernel
theorem dX12_findIntrusions_138 : decode cX12_findIntrusions 138 = .ok (.iload_n 3, 1) := by decide +kernel
theorem dX12_findIntrusions_139 : decode cX12_findIntrusions 139 = .ok (.iaload, 1) := by decide +kernel
theorem dX12_findIntrusions_140 : decode cX12_findIntrusions 140 = .ok (.aload_n 0, 1) := by decide +kernel
theorem dX12_findIntrusions_141 : decode cX12_findIntrusions 141 = .ok (.getfield 29, 3) := by decide +kernel
theorem dX12_findIntrusions_144 : decode cX12_findIntrusions 144 = .ok (.iload_n 3, 1) := by decide +kernel
theorem dX12_findIntrusions_145 : decode cX12_findIntrusions 145 = .ok (.iaload, 1) := by decide +kernel
theorem dX12_findIntrusions_146 : decode cX12_findIntrusions 146 = .ok (.aload_n 0, 1) := by decide +kernel
theorem dX12_findIntrusions_147 : decode cX12_findIntrusions 147 = .ok (.getfield 35, 3) := by decide +kernel
theorem dX12_findIntrusions_150 : decode cX12_findIntrusions 150 = .ok (.iload_n 3, 1) := by decide +kernel
theorem dX12_findIntrusions_151 : decode cX12_findIntrusions 151 = .ok (.iaload, 1) := by decide +kernel
theorem dX12_findIntrusions_152 : decode cX12_findIntrusions 152 = .ok (.iadd, 1) := by decide +kernel
theorem dX12_findIntrusions_153 : decode cX12_findIntrusions 153 = .ok (.invokestatic 116, 3) := by decide +kernel
theorem dX12_findIntrusions_156 : decode cX12_findIntrusions 156 = .ok (.istore 7, 2) := by decide +kernel
theorem dX12_findIntrusions_158 : decode cX12_findIntrusions 158 = .ok (.iload_n 3, 1) := by decide +kernel
theorem dX12_findIntrusions_159 : decode cX12_findIntrusions 159 = .ok (.iload_n 1, 1) := by decide +kernel
theorem dX12_findIntrusions_160 : decode cX12_findIntrusions 160 = .ok (.if_icmp .eq 44, 3) := by decide +kernel
theorem dX12_findIntrusions_163 : decode cX12_findIntrusions 163 = .ok (.iload 4, 2) := by decide +kernel
theorem dX12_findIntrusions_165 : decode cX12_findIntrusions 165 = .ok (.ifCond .ne 39, 3) := by decide +kernel
theorem dX12_findIntrusions_168 : decode cX12_findIntrusions 168 = .ok (.iload 5, 2) := by decide +kernel
theorem dX12_findIntrusions_170 : decode cX12_findIntrusions 170 = .ok (.ifCond .ne 34, 3) := by decide +kernel
theorem dX12_findIntrusions_173 : decode cX12_findIntrusions 173 = .ok (.iload 6, 2) := by decide +kernel
theorem dX12_findIntrusions_175 : decode cX12_findIntrusions 175 = .ok (.ifCond .le 29, 3) := by decide +kernel
theorem dX12_findIntrusions_178 : decode cX12_findIntrusions 178 = .ok (.iload 7, 2) := by decide +kernel
theorem dX12_findIntrusions_180 : decode cX12_findIntrusions 180 = .ok (.ifCond .le 24, 3) := by decide +kernel
theorem dX12_findIntrusions_183 : decode cX12_findIntrusions 183 = .ok (.aload_n 0, 1) := by decide +kernel
theorem dX12_findIntrusions_184 : decode cX12_findIntrusions 184 = .ok (.iconst 5, 1) := by decide +kernel
theorem dX12_findIntrusions_185 : decode cX12_findIntrusions 185 = .ok (.iload_n 1, 1) := by decide +kernel
theorem dX12_findIntrusions_186 : decode cX12_findIntrusions 186 = .ok (.iload_n 2, 1) := by decide +kernel
theorem dX12_findIntrusions_187 : decode cX12_findIntrusions 187 = .ok (.iload_n 3, 1) := by decide +kernel
theorem dX12_findIntrusions_188 : decode cX12_findIntrusions 188 = .ok (.iload_n 2, 1) := by decide +kernel
theorem dX12_findIntrusions_189 : decode cX12_findIntrusions 189 = .ok (.iconst 2, 1) := by decide +kernel
theorem dX12_findIntrusions_190 : decode cX12_findIntrusions 190 = .ok (.irem, 1) := by decide +kernel
theorem dX12_findIntrusions_191 : decode cX12_findIntrusions 191 = .ok (.ifCond .ne 8, 3) := by decide +kernel
theorem dX12_findIntrusions_194 : decode cX12_findIntrusions 194 = .ok (.iload 7, 2) := by decide +kernel
theorem dX12_findIntrusions_196 : decode cX12_findIntrusions 196 = .ok (.goto 5, 3) := by decide +kernel
theorem dX12_findIntrusions_199 : decode cX12_findIntrusions 199 = .ok (.iload 6, 2) := by decide +kernel
theorem dX12_findIntrusions_201 : decode cX12_findIntrusions 201 = .ok (.invokevirtual 314, 3) := by decide +kernel
theorem dX12_findIntrusions_204 : decode cX12_findIntrusions 204 = .ok (.iinc 3 1, 3) := by decide +kernel
theorem dX12_findIntrusions_207 : decode cX12_findIntrusions 207 = .ok (.goto (-195), 3) := by decide +kernel
theorem dX12_findIntrusions_210 : decode cX12_findIntrusions 210 = .ok (.iload_n 2, 1) := by decide +kernel
theorem dX12_findIntrusions_211 : decode cX12_findIntrusions 211 = .ok (.ifCond .ne 13, 3) := by decide +kernel
theorem dX12_findIntrusions_214 : decode cX12_findIntrusions 214 = .ok (.aload_n 0, 1) := by decide +kernel
theorem dX12_findIntrusions_215 : decode cX12_findIntrusions 215 = .ok (.getfield 74, 3) := by decide +kernel
theorem dX12_findIntrusions_218 : decode cX12_findIntrusions 218 = .ok (.iconst 2, 1) := by decide +kernel
theorem dX12_findIntrusions_219 : decode cX12_findIntrusions 219 = .ok (.iaload, 1) := by decide +kernel
theorem dX12_findIntrusions_220 : decode cX12_findIntrusions 220 = .ok (.ineg, 1) := by decide +kernel
theorem dX12_findIntrusions_221 : decode cX12_findIntrusions 221 = .ok (.goto 52, 3) := by decide +kernel
theorem dX12_findIntrusions_224 : decode cX12_findIntrusions 224 = .ok (.iload_n 2, 1) := by decide +kernel
theorem dX12_findIntrusions_225 : decode cX12_findIntrusions 225 = .ok (.iconst 1, 1) := by decide +kernel
theorem dX12_findIntrusions_226 : decode cX12_findIntrusions 226 = .ok (.if_icmp .ne 19, 3) := by decide +kernel
theorem dX12_findIntrusions_229 : decode cX12_findIntrusions 229 = .ok (.aload_n 0, 1) := by decide +kernel
theorem dX12_findIntrusions_230 : decode cX12_findIntrusions 230 = .ok (.getfield 74, 3) := by decide +kernel
theorem dX12_findIntrusions_233 : decode cX12_findIntrusions 233 = .ok (.iconst 1, 1) := by decide +kernel
theorem dX12_findIntrusions_234 : decode cX12_findIntrusions 234 = .ok (.iaload, 1) := by decide +kernel
theorem dX12_findIntrusions_235 : decode cX12_findIntrusions 235 = .ok (.aload_n 0, 1) := by decide +kernel
theorem dX12_findIntrusions_236 : decode cX12_findIntrusions 236 = .ok (.getfield 7, 3) := by decide +kernel
theorem dX12_findIntrusions_239 : decode cX12_findIntrusions 239 = .ok (.iconst 0, 1) := by decide +kernel
theorem dX12_findIntrusions_240 : decode cX12_findIntrusions 240 = .ok (.iaload, 1) := by decide +kernel
theorem dX12_findIntrusions_241 : decode cX12_findIntrusions 241 = .ok (.isub, 1) := by decide +kernel
theorem dX12_findIntrusions_242 : decode cX12_findIntrusions 242 = .ok (.goto 31, 3) := by decide +kernel
theorem dX12_findIntrusions_245 : decode cX12_findIntrusions 245 = .ok (.iload_n 2, 1) := by decide +kernel
theorem dX12_findIntrusions_246 : decode cX12_findIntrusions 246 = .ok (.iconst 2, 1) := by decide +kernel
theorem dX12_findIntrusions_247 : decode cX12_findIntrusions 247 = .ok (.if_icmp .ne 19, 3) := by decide +kernel
theorem dX12_findIntrusions_250 : decode cX12_findIntrusions 250 = .ok (.aload_n 0, 1) := by decide +kernel
theorem dX12_findIntrusions_251 : decode cX12_findIntrusions 251 = .ok (.getfield 74, 3) := by decide +kernel
theorem dX12_findIntrusions_254 : decode cX12_findIntrusions 254 = .ok (.iconst 3, 1) := by decide +kernel
theorem dX12_findIntrusions_255 : decode cX12_findIntrusions 255 = .ok (.iaload, 1) := by decide +kernel
theorem dX12_findIntrusions_256 : decode cX12_findIntrusions 256 = .ok (.aload_n 0, 1) := by decide +kernel
theorem dX12_findIntrusions_257 : decode cX12_findIntrusions 257 = .ok (.getfield 7, 3) := by decide +kernel
theorem dX12_findIntrusions_260 : decode cX12_findIntrusions 260 = .ok (.iconst 1, 1) := by decide +kernel
theorem dX12_findIntrusions_261 : decode cX12_findIntrusions 261 = .ok (.iaload, 1) := by decide +kernel
theorem dX12_findIntrusions_262 : decode cX12_findIntrusions 262 = .ok (.isub, 1) := by decide +kernel
theorem dX12_findIntrusions_263 : decode cX12_findIntrusions 263 = .ok (.goto 10, 3) := by decide +kernel
theorem dX12_findIntrusions_266 : decode cX12_findIntrusions 266 = .ok (.aload_n 0, 1) := by decide +kernel
theorem dX12_findIntrusions_267 : decode cX12_findIntrusions 267 = .ok (.getfield 74, 3) := by decide +kernel
theorem dX12_findIntrusions_270 : decode cX12_findIntrusions 270 = .ok (.iconst 0, 1) := by decide +kernel
theorem dX12_findIntrusions_271 : decode cX12_findIntrusions 271 = .ok (.iaload, 1) := by decide +kernel
theorem dX12_findIntrusions_272 : decode cX12_findIntrusions 272 = .ok (.ineg, 1) := by decide +kernel
theorem dX12_findIntrusions_273 : decode cX12_findIntrusions 273 = .ok (.istore_n 3, 1) := by decide +kernel
theorem dX12_findIntrusions_274 : decode cX12_findIntrusions 274 = .ok (.aload_n 0, 1) := by decide +kernel
theorem dX12_findIntrusions_275 : decode cX12_findIntrusions 275 = .ok (.iconst 5, 1) := by decide +kernel
theorem dX12_findIntrusions_276 : decode cX12_findIntrusions 276 = .ok (.iload_n 1, 1) := by decide +kernel
theorem dX12_findIntrusions_277 : decode cX12_findIntrusions 277 = .ok (.iload_n 2, 1) := by decide +kernel
theorem dX12_findIntrusions_278 : decode cX12_findIntrusions 278 = .ok (.bipush (-9), 2) := by decide +kernel
theorem dX12_findIntrusions_280 : decode cX12_findIntrusions 280 = .ok (.iload_n 3, 1) := by decide +kernel
theorem dX12_findIntrusions_281 : decode cX12_findIntrusions 281 = .ok (.invokevirtual 314, 3) := by decide +kernel
theorem dX12_findIntrusions_284 : decode cX12_findIntrusions 284 = .ok (.return_, 1) := by decide +kernel
theorem dX12_findInk_0 : decode cX12_findInk 0 = .ok (.aload_n 0, 1) := by decide +kernel
theorem dX12_findInk_1 : decode cX12_findInk 1 = .ok (.iload_n 1, 1) := by decide +kernel
theorem dX12_findInk_2 : decode cX12_findInk 2 = .ok (.invokevirtual 302, 3) := by decide +kernel
theorem dX12_findInk_5 : decode cX12_findInk 5 = .ok (.ifCond .eq 11, 3) := by decide +kernel
theorem dX12_findInk_8 : decode cX12_findInk 8 = .ok (.aload_n 0, 1) := by decide +kernel
theorem dX12_findInk_9 : decode cX12_findInk 9 = .ok (.iload_n 1, 1) := by decide +kernel
theorem dX12_findInk_10 : decode cX12_findInk 10 = .ok (.invokevirtual 263, 3) := by decide +kernel
theorem dX12_findInk_13 : decode cX12_findInk 13 = .ok (.ifCond .ne 4, 3) := by decide +kernel
theorem dX12_findInk_16 : decode cX12_findInk 16 = .ok (.return_, 1) := by decide +kernel
theorem dX12_findInk_17 : decode cX12_findInk 17 = .ok (.aload_n 0, 1) := by decide +kernel
theorem dX12_findInk_18 : decode cX12_findInk 18 = .ok (.iload_n 1, 1) := by decide +kernel
theorem dX12_findInk_19 : decode cX12_findInk 19 = .ok (.iconst 1, 1) := by decide +kernel
theorem dX12_findInk_20 : decode cX12_findInk 20 = .ok (.invokevirtual 91, 3) := by decide +kernel
theorem dX12_findInk_23 : decode cX12_findInk 23 = .ok (.iconst 2, 1) := by decide +kernel
theorem dX12_findInk_24 : decode cX12_findInk 24 = .ok (.iadd, 1) := by decide +kernel
theorem dX12_findInk_25 : decode cX12_findInk 25 = .ok (.iconst 4, 1) := by decide +kernel
theorem dX12_findInk_26 : decode cX12_findInk 26 = .ok (.irem, 1) := by decide +kernel
theorem dX12_findInk_27 : decode cX12_findInk 27 = .ok (.istore_n 2, 1) := by decide +kernel
theorem dX12_findInk_28 : decode cX12_findInk 28 = .ok (.aload_n 0, 1) := by decide +kernel
theorem dX12_findInk_29 : decode cX12_findInk 29 = .ok (.iload_n 1, 1) := by decide +kernel
theorem dX12_findInk_30 : decode cX12_findInk 30 = .ok (.bipush 9, 2) := by decide +kernel
theorem dX12_findInk_32 : decode cX12_findInk 32 = .ok (.invokevirtual 91, 3) := by decide +kernel
theorem dX12_findInk_35 : decode cX12_findInk 35 = .ok (.istore_n 3, 1) := by decide +kernel
theorem dX12_findInk_36 : decode cX12_findInk 36 = .ok (.aload_n 0, 1) := by decide +kernel
theorem dX12_findInk_37 : decode cX12_findInk 37 = .ok (.iload_n 1, 1) := by decide +kernel
theorem dX12_findInk_38 : decode cX12_findInk 38 = .ok (.bipush 10, 2) := by decide +kernel
theorem dX12_findInk_40 : decode cX12_findInk 40 = .ok (.invokevirtual 91, 3) := by decide +kernel
theorem dX12_findInk_43 : decode cX12_findInk 43 = .ok (.istore 4, 2) := by decide +kernel
theorem dX12_findInk_45 : decode cX12_findInk 45 = .ok (.iload_n 2, 1) := by decide +kernel
theorem dX12_findInk_46 : decode cX12_findInk 46 = .ok (.ifCond .ne 24, 3) := by decide +kernel
theorem dX12_findInk_49 : decode cX12_findInk 49 = .ok (.aload_n 0, 1) := by decide +kernel
theorem dX12_findInk_50 : decode cX12_findInk 50 = .ok (.getfield 35, 3) := by decide +kernel
theorem dX12_findInk_53 : decode cX12_findInk 53 = .ok (.iload_n 1, 1) := by decide +kernel
theorem dX12_findInk_54 : decode cX12_findInk 54 = .ok (.iaload, 1) := by decide +kernel
theorem dX12_findInk_55 : decode cX12_findInk 55 = .ok (.iload 4, 2) := by decide +kernel
theorem dX12_findInk_57 : decode cX12_findInk 57 = .ok (.aload_n 0, 1) := by decide +kernel
theorem dX12_findInk_58 : decode cX12_findInk 58 = .ok (.iload_n 1, 1) := by decide +kernel
theorem dX12_findInk_59 : decode cX12_findInk 59 = .ok (.iconst 1, 1) := by decide +kernel
theorem dX12_findInk_60 : decode cX12_findInk 60 = .ok (.invokevirtual 260, 3) := by decide +kernel
theorem dX12_findInk_63 : decode cX12_findInk 63 = .ok (.iadd, 1) := by decide +kernel
theorem dX12_findInk_64 : decode cX12_findInk 64 = .ok (.invokestatic 110, 3) := by decide +kernel
theorem dX12_findInk_67 : decode cX12_findInk 67 = .ok (.goto 61, 3) := by decide +kernel
theorem dX12_findInk_70 : decode cX12_findInk 70 = .ok (.iload_n 2, 1) := by decide +kernel
theorem dX12_findInk_71 : decode cX12_findInk 71 = .ok (.iconst 2, 1) := by decide +kernel
theorem dX12_findInk_72 : decode cX12_findInk 72 = .ok (.if_icmp .ne 19, 3) := by decide +kernel
theorem dX12_findInk_75 : decode cX12_findInk 75 = .ok (.aload_n 0, 1) := by decide +kernel
theorem dX12_findInk_76 : decode cX12_findInk 76 = .ok (.getfield 35, 3) := by decide +kernel
theorem dX12_findInk_79 : decode cX12_findInk 79 = .ok (.iload_n 1, 1) := by decide +kernel
theorem dX12_findInk_80 : decode cX12_findInk 80 = .ok (.iaload, 1) := by decide +kernel
theorem dX12_findInk_81 : decode cX12_findInk 81 = .ok (.iconst 0, 1) := by decide +kernel
theorem dX12_findInk_82 : decode cX12_findInk 82 = .ok (.iload 4, 2) := by decide +kernel
theorem dX12_findInk_84 : decode cX12_findInk 84 = .ok (.invokestatic 113, 3) := by decide +kernel
theorem dX12_findInk_87 : decode cX12_findInk 87 = .ok (.isub, 1) := by decide +kernel
theorem dX12_findInk_88 : decode cX12_findInk 88 = .ok (.goto 40, 3) := by decide +kernel
theorem dX12_findInk_91 : decode cX12_findInk 91 = .ok (.iload_n 2, 1) := by decide +kernel
theorem dX12_findInk_92 : decode cX12_findInk 92 = .ok (.iconst 3, 1) := by decide +kernel
theorem dX12_findInk_93 : decode cX12_findInk 93 = .ok (.if_icmp .ne 23, 3) := by decide +kernel
theorem dX12_findInk_96 : decode cX12_findInk 96 = .ok (.aload_n 0, 1) := by decide +kernel
theorem dX12_findInk_97 : decode cX12_findInk 97 = .ok (.getfield 32, 3) := by decide +kernel
theorem dX12_findInk_100 : decode cX12_findInk 100 = .ok (.iload_n 1, 1) := by decide +kernel
theorem dX12_findInk_101 : decode cX12_findInk 101 = .ok (.iaload, 1) := by decide +kernel
theorem dX12_findInk_102 : decode cX12_findInk 102 = .ok (.iload_n 3, 1) := by decide +kernel
theorem dX12_findInk_103 : decode cX12_findInk 103 = .ok (.aload_n 0, 1) := by decide +kernel
theorem dX12_findInk_104 : decode cX12_findInk 104 = .ok (.iload_n 1, 1) := by decide +kernel
theorem dX12_findInk_105 : decode cX12_findInk 105 = .ok (.iconst 0, 1) := by decide +kernel
theorem dX12_findInk_106 : decode cX12_findInk 106 = .ok (.invokevirtual 260, 3) := by decide +kernel
theorem dX12_findInk_109 : decode cX12_findInk 109 = .ok (.iadd, 1) := by decide +kernel
theorem dX12_findInk_110 : decode cX12_findInk 110 = .ok (.invokestatic 110, 3) := by decide +kernel
theorem dX12_findInk_113 : decode cX12_findInk 113 = .ok (.goto 15, 3) := by decide +kernel
theorem dX12_findInk_116 : decode cX12_findInk 116 = .ok (.aload_n 0, 1) := by decide +kernel
theorem dX12_findInk_117 : decode cX12_findInk 117 = .ok (.getfield 32, 3) := by decide +kernel
theorem dX12_findInk_120 : decode cX12_findInk 120 = .ok (.iload_n 1, 1) := by decide +kernel
theorem dX12_findInk_121 : decode cX12_findInk 121 = .ok (.iaload, 1) := by decide +kernel
theorem dX12_findInk_122 : decode cX12_findInk 122 = .ok (.iconst 0, 1) := by decide +kernel
theorem dX12_findInk_123 : decode cX12_findInk 123 = .ok (.iload_n 3, 1) := by decide +kernel
theorem dX12_findInk_124 : decode cX12_findInk 124 = .ok (.invokestatic 113, 3) := by decide +kernel
theorem dX12_findInk_127 : decode cX12_findInk 127 = .ok (.isub, 1) := by decide +kernel
theorem dX12_findInk_128 : decode cX12_findInk 128 = .ok (.istore 5, 2) := by decide +kernel
theorem dX12_findInk_130 : decode cX12_findInk 130 = .ok (.aload_n 0, 1) := by decide +kernel
theorem dX12_findInk_131 : decode cX12_findInk 131 = .ok (.bipush 6, 2) := by decide +kernel
theorem dX12_findInk_133 : decode cX12_findInk 133 = .ok (.iload_n 1, 1) := by decide +kernel
theorem dX12_findInk_134 : decode cX12_findInk 134 = .ok (.bipush (-9), 2) := by decide +kernel
theorem dX12_findInk_136 : decode cX12_findInk 136 = .ok (.bipush (-9), 2) := by decide +kernel
theorem dX12_findInk_138 : decode cX12_findInk 138 = .ok (.iload 5, 2) := by decide +kernel
theorem dX12_findInk_140 : decode cX12_findInk 140 = .ok (.aload_n 0, 1) := by decide +kernel
theorem dX12_findInk_141 : decode cX12_findInk 141 = .ok (.iconst 2, 1) := by decide +kernel
theorem dX12_findInk_142 : decode cX12_findInk 142 = .ok (.invokevirtual 293, 3) := by decide +kernel
theorem dX12_findInk_145 : decode cX12_findInk 145 = .ok (.isub, 1) := by decide +kernel
theorem dX12_findInk_146 : decode cX12_findInk 146 = .ok (.invokevirtual 314, 3) := by decide +kernel
theorem dX12_findInk_149 : decode cX12_findInk 149 = .ok (.return_, 1) := by decide +kernel
theorem dX12_findSides_0 : decode cX12_findSides 0 = .ok (.iconst 0, 1) := by decide +kernel
theorem dX12_findSides_1 : decode cX12_findSides 1 = .ok (.istore_n 3, 1) := by decide +kernel
theorem dX12_findSides_2 : decode cX12_findSides 2 = .ok (.iload_n 3, 1) := by decide +kernel
theorem dX12_findSides_3 : decode cX12_findSides 3 = .ok (.iconst 4, 1) := by decide +kernel
theorem dX12_findSides_4 : decode cX12_findSides 4 = .ok (.if_icmp .ge 84, 3) := by decide +kernel
theorem dX12_findSides_7 : decode cX12_findSides 7 = .ok (.aload_n 0, 1) := by decide +kernel
theorem dX12_findSides_8 : decode cX12_findSides 8 = .ok (.iload_n 1, 1) := by decide +kernel
theorem dX12_findSides_9 : decode cX12_findSides 9 = .ok (.iload_n 3, 1) := by decide +kernel
theorem dX12_findSides_10 : decode cX12_findSides 10 = .ok (.invokevirtual 281, 3) := by decide +kernel
theorem dX12_findSides_13 : decode cX12_findSides 13 = .ok (.istore 4, 2) := by decide +kernel
theorem dX12_findSides_15 : decode cX12_findSides 15 = .ok (.aload_n 0, 1) := by decide +kernel
theorem dX12_findSides_16 : decode cX12_findSides 16 = .ok (.iload_n 1, 1) := by decide +kernel
theorem dX12_findSides_17 : decode cX12_findSides 17 = .ok (.invokevirtual 302, 3) := by decide +kernel
theorem dX12_findSides_20 : decode cX12_findSides 20 = .ok (.ifCond .ne 56, 3) := by decide +kernel
theorem dX12_findSides_23 : decode cX12_findSides 23 = .ok (.aload_n 0, 1) := by decide +kernel
theorem dX12_findSides_24 : decode cX12_findSides 24 = .ok (.iconst 0, 1) := by decide +kernel
theorem dX12_findSides_25 : decode cX12_findSides 25 = .ok (.iload_n 1, 1) := by decide +kernel
theorem dX12_findSides_26 : decode cX12_findSides 26 = .ok (.iload_n 3, 1) := by decide +kernel
theorem dX12_findSides_27 : decode cX12_findSides 27 = .ok (.bipush (-9), 2) := by decide +kernel
theorem dX12_findSides_29 : decode cX12_findSides 29 = .ok (.aload_n 0, 1) := by decide +kernel
theorem dX12_findSides_30 : decode cX12_findSides 30 = .ok (.iload_n 1, 1) := by decide +kernel
theorem dX12_findSides_31 : decode cX12_findSides 31 = .ok (.iload_n 3, 1) := by decide +kernel
theorem dX12_findSides_32 : decode cX12_findSides 32 = .ok (.iload_n 2, 1) := by decide +kernel
theorem dX12_findSides_33 : decode cX12_findSides 33 = .ok (.invokevirtual 317, 3) := by decide +kernel
theorem dX12_findSides_36 : decode cX12_findSides 36 = .ok (.invokevirtual 314, 3) := by decide +kernel
theorem dX12_findSides_39 : decode cX12_findSides 39 = .ok (.aload_n 0, 1) := by decide +kernel
theorem dX12_findSides_40 : decode cX12_findSides 40 = .ok (.iconst 4, 1) := by decide +kernel
theorem dX12_findSides_41 : decode cX12_findSides 41 = .ok (.iload_n 1, 1) := by decide +kernel
theorem dX12_findSides_42 : decode cX12_findSides 42 = .ok (.iload_n 3, 1) := by decide +kernel
theorem dX12_findSides_43 : decode cX12_findSides 43 = .ok (.bipush (-9), 2) := by decide +kernel
theorem dX12_findSides_45 : decode cX12_findSides 45 = .ok (.iload 4, 2) := by decide +kernel
theorem dX12_findSides_47 : decode cX12_findSides 47 = .ok (.bipush (-9), 2) := by decide +kernel
theorem dX12_findSides_49 : decode cX12_findSides 49 = .ok (.if_icmp .eq 23, 3) := by decide +kernel
theorem dX12_findSides_52 : decode cX12_findSides 52 = .ok (.aload_n 0, 1) := by decide +kernel
theorem dX12_findSides_53 : decode cX12_findSides 53 = .ok (.iload_n 1, 1) := by decide +kernel
theorem dX12_findSides_54 : decode cX12_findSides 54 = .ok (.iload_n 3, 1) := by decide +kernel
theorem dX12_findSides_55 : decode cX12_findSides 55 = .ok (.invokevirtual 320, 3) := by decide +kernel
theorem dX12_findSides_58 : decode cX12_findSides 58 = .ok (.ifCond .ne 14, 3) := by decide +kernel
theorem dX12_findSides_61 : decode cX12_findSides 61 = .ok (.aload_n 0, 1) := by decide +kernel
theorem dX12_findSides_62 : decode cX12_findSides 62 = .ok (.iconst 1, 1) := by decide +kernel
theorem dX12_findSides_63 : decode cX12_findSides 63 = .ok (.invokevirtual 293, 3) := by decide +kernel
theorem dX12_findSides_66 : decode cX12_findSides 66 = .ok (.iload 4, 2) := by decide +kernel
theorem dX12_findSides_68 : decode cX12_findSides 68 = .ok (.isub, 1) := by decide +kernel
theorem dX12_findSides_69 : decode cX12_findSides 69 = .ok (.goto 4, 3) := by decide +kernel
theorem dX12_findSides_72 : decode cX12_findSides 72 = .ok (.iconst 0, 1) := by decide +kernel
theorem dX12_findSides_73 : decode cX12_findSides 73 = .ok (.invokevirtual 314, 3) := by decide +kernel
theorem dX12_findSides_76 : decode cX12_findSides 76 = .ok (.aload_n 0, 1) := by decide +kernel
theorem dX12_findSides_77 : decode cX12_findSides 77 = .ok (.iload_n 1, 1) := by decide +kernel
theorem dX12_findSides_78 : decode cX12_findSides 78 = .ok (.iload_n 3, 1) := by decide +kernel
theorem dX12_findSides_79 : decode cX12_findSides 79 = .ok (.invokevirtual 323, 3) := by decide +kernel
theorem dX12_findSides_82 : decode cX12_findSides 82 = .ok (.iinc 3 1, 3) := by decide +kernel
theorem dX12_findSides_85 : decode cX12_findSides 85 = .ok (.goto (-83), 3) := by decide +kernel
theorem dX12_findSides_88 : decode cX12_findSides 88 = .ok (.return_, 1) := by decide +kernel
theorem dX12_findAll_0 : decode cX12_findAll 0 = .ok (.aload_n 0, 1) := by decide +kernel
theorem dX12_findAll_1 : decode cX12_findAll 1 = .ok (.iconst 0, 1) := by decide +kernel
theorem dX12_findAll_2 : decode cX12_findAll 2 = .ok (.invokevirtual 293, 3) := by decide +kernel
theorem dX12_findAll_5 : decode cX12_findAll 5 = .ok (.istore_n 1, 1) := by decide +kernel
theorem dX12_findAll_6 : decode cX12_findAll 6 = .ok (.aload_n 0, 1) := by decide +kernel
theorem dX12_findAll_7 : decode cX12_findAll 7 = .ok (.iload_n 1, 1) := by decide +kernel
theorem dX12_findAll_8 : decode cX12_findAll 8 = .ok (.invokevirtual 296, 3) := by decide +kernel
theorem dX12_findAll_11 : decode cX12_findAll 11 = .ok (.aload_n 0, 1) := by decide +kernel
theorem dX12_findAll_12 : decode cX12_findAll 12 = .ok (.iconst 0, 1) := by decide +kernel
theorem dX12_findAll_13 : decode cX12_findAll 13 = .ok (.putfield 308, 3) := by decide +kernel
theorem dX12_findAll_16 : decode cX12_findAll 16 = .ok (.iconst 0, 1) := by decide +kernel
theorem dX12_findAll_17 : decode cX12_findAll 17 = .ok (.istore_n 2, 1) := by decide +kernel
theorem dX12_findAll_18 : decode cX12_findAll 18 = .ok (.iload_n 2, 1) := by decide +kernel
theorem dX12_findAll_19 : decode cX12_findAll 19 = .ok (.aload_n 0, 1) := by decide +kernel
theorem dX12_findAll_20 : decode cX12_findAll 20 = .ok (.invokevirtual 83, 3) := by decide +kernel
theorem dX12_findAll_23 : decode cX12_findAll 23 = .ok (.if_icmp .ge 135, 3) := by decide +kernel
theorem dX12_findAll_26 : decode cX12_findAll 26 = .ok (.aload_n 0, 1) := by decide +kernel
theorem dX12_findAll_27 : decode cX12_findAll 27 = .ok (.iload_n 2, 1) := by decide +kernel
theorem dX12_findAll_28 : decode cX12_findAll 28 = .ok (.iload_n 1, 1) := by decide +kernel
theorem dX12_findAll_29 : decode cX12_findAll 29 = .ok (.invokevirtual 326, 3) := by decide +kernel
theorem dX12_findAll_32 : decode cX12_findAll 32 = .ok (.aload_n 0, 1) := by decide +kernel
theorem dX12_findAll_33 : decode cX12_findAll 33 = .ok (.iload_n 2, 1) := by decide +kernel
theorem dX12_findAll_34 : decode cX12_findAll 34 = .ok (.invokevirtual 329, 3) := by decide +kernel
theorem dX12_findAll_37 : decode cX12_findAll 37 = .ok (.iload_n 2, 1) := by decide +kernel
theorem dX12_findAll_38 : decode cX12_findAll 38 = .ok (.ifCond .le 38, 3) := by decide +kernel
theorem dX12_findAll_41 : decode cX12_findAll 41 = .ok (.aload_n 0, 1) := by decide +kernel
theorem dX12_findAll_42 : decode cX12_findAll 42 = .ok (.iload_n 2, 1) := by decide +kernel
theorem dX12_findAll_43 : decode cX12_findAll 43 = .ok (.invokevirtual 302, 3) := by decide +kernel
theorem dX12_findAll_46 : decode cX12_findAll 46 = .ok (.ifCond .eq 30, 3) := by decide +kernel
theorem dX12_findAll_49 : decode cX12_findAll 49 = .ok (.aload_n 0, 1) := by decide +kernel
theorem dX12_findAll_50 : decode cX12_findAll 50 = .ok (.iconst 3, 1) := by decide +kernel
theorem dX12_findAll_51 : decode cX12_findAll 51 = .ok (.iload_n 2, 1) := by decide +kernel
theorem dX12_findAll_52 : decode cX12_findAll 52 = .ok (.bipush (-9), 2) := by decide +kernel
theorem dX12_findAll_54 : decode cX12_findAll 54 = .ok (.aload_n 0, 1) := by decide +kernel
theorem dX12_findAll_55 : decode cX12_findAll 55 = .ok (.iload_n 2, 1) := by decide +kernel
theorem dX12_findAll_56 : decode cX12_findAll 56 = .ok (.bipush 6, 2) := by decide +kernel
theorem dX12_findAll_58 : decode cX12_findAll 58 = .ok (.invokevirtual 91, 3) := by decide +kernel
theorem dX12_findAll_61 : decode cX12_findAll 61 = .ok (.aload_n 0, 1) := by decide +kernel
theorem dX12_findAll_62 : decode cX12_findAll 62 = .ok (.iconst 3, 1) := by decide +kernel
theorem dX12_findAll_63 : decode cX12_findAll 63 = .ok (.invokevirtual 293, 3) := by decide +kernel
theorem dX12_findAll_66 : decode cX12_findAll 66 = .ok (.aload_n 0, 1) := by decide +kernel
theorem dX12_findAll_67 : decode cX12_findAll 67 = .ok (.iload_n 2, 1) := by decide +kernel
theorem dX12_findAll_68 : decode cX12_findAll 68 = .ok (.iload_n 1, 1) := by decide +kernel
theorem dX12_findAll_69 : decode cX12_findAll 69 = .ok (.invokevirtual 332, 3) := by decide +kernel
theorem dX12_findAll_72 : decode cX12_findAll 72 = .ok (.isub, 1) := by decide +kernel
theorem dX12_findAll_73 : decode cX12_findAll 73 = .ok (.invokevirtual 314, 3) := by decide +kernel
theorem dX12_findAll_76 : decode cX12_findAll 76 = .ok (.iload_n 2, 1) := by decide +kernel
theorem dX12_findAll_77 : decode cX12_findAll 77 = .ok (.iconst 1, 1) := by decide +kernel
theorem dX12_findAll_78 : decode cX12_findAll 78 = .ok (.iadd, 1) := by decide +kernel
theorem dX12_findAll_79 : decode cX12_findAll 79 = .ok (.istore_n 3, 1) := by decide +kernel
theorem dX12_findAll_80 : decode cX12_findAll 80 = .ok (.iload_n 3, 1) := by decide +kernel
theorem dX12_findAll_81 : decode cX12_findAll 81 = .ok (.aload_n 0, 1) := by decide +kernel
theorem dX12_findAll_82 : decode cX12_findAll 82 = .ok (.invokevirtual 83, 3) := by decide +kernel
theorem dX12_findAll_85 : decode cX12_findAll 85 = .ok (.if_icmp .ge 67, 3) := by decide +kernel
theorem dX12_findAll_88 : decode cX12_findAll 88 = .ok (.aload_n 0, 1) := by decide +kernel
theorem dX12_findAll_89 : decode cX12_findAll 89 = .ok (.iconst 1, 1) := by decide +kernel
theorem dX12_findAll_90 : decode cX12_findAll 90 = .ok (.iload_n 2, 1) := by decide +kernel
theorem dX12_findAll_91 : decode cX12_findAll 91 = .ok (.bipush (-9), 2) := by decide +kernel
theorem dX12_findAll_93 : decode cX12_findAll 93 = .ok (.iload_n 3, 1) := by decide +kernel
theorem dX12_findAll_94 : decode cX12_findAll 94 = .ok (.aload_n 0, 1) := by decide +kernel
theorem dX12_findAll_95 : decode cX12_findAll 95 = .ok (.iload_n 2, 1) := by decide +kernel
theorem dX12_findAll_96 : decode cX12_findAll 96 = .ok (.iload_n 3, 1) := by decide +kernel
theorem dX12_findAll_97 : decode cX12_findAll 97 = .ok (.iload_n 1, 1) := by decide +kernel
theorem dX12_findAll_98 : decode cX12_findAll 98 = .ok (.invokevirtual 335, 3) := by decide +kernel
theorem dX12_findAll_101 : decode cX12_findAll 101 = .ok (.invokevirtual 314, 3) := by decide +kernel
theorem dX12_findAll_104 : decode cX12_findAll 104 = .ok (.aload_n 0, 1) := by decide +kernel
theorem dX12_findAll_105 : decode cX12_findAll 105 = .ok (.iconst 2, 1) := by decide +kernel
theorem dX12_findAll_106 : decode cX12_findAll 106 = .ok (.iload_n 2, 1) := by decide +kernel
theorem dX12_findAll_107 : decode cX12_findAll 107 = .ok (.bipush (-9), 2) := by decide +kernel
theorem dX12_findAll_109 : decode cX12_findAll 109 = .ok (.iload_n 3, 1) := by decide +kernel
theorem dX12_findAll_110 : decode cX12_findAll 110 = .ok (.aload_n 0, 1) := by decide +kernel
theorem dX12_findAll_111 : decode cX12_findAll 111 = .ok (.iload_n 2, 1) := by decide +kernel
theorem dX12_findAll_112 : decode cX12_findAll 112 = .ok (.bipush 6, 2) := by decide +kernel
theorem dX12_findAll_114 : decode cX12_findAll 114 = .ok (.invokevirtual 91, 3) := by decide +kernel
theorem dX12_findAll_117 : decode cX12_findAll 117 = .ok (.iload_n 3, 1) := by decide +kernel
theorem dX12_findAll_118 : decode cX12_findAll 118 = .ok (.if_icmp .eq 14, 3) := by decide +kernel
theorem dX12_findAll_121 : decode cX12_findAll 121 = .ok (.aload_n 0, 1) := by decide +kernel
theorem dX12_findAll_122 : decode cX12_findAll 122 = .ok (.iload_n 3, 1) := by decide +kernel
theorem dX12_findAll_123 : decode cX12_findAll 123 = .ok (.bipush 6, 2) := by decide +kernel
theorem dX12_findAll_125 : decode cX12_findAll 125 = .ok (.invokevirtual 91, 3) := by decide +kernel
theorem dX12_findAll_128 : decode cX12_findAll 128 = .ok (.iload_n 2, 1) := by decide +kernel
theorem dX12_findAll_129 : decode cX12_findAll 129 = .ok (.if_icmp .ne 7, 3) := by decide +kernel
theorem dX12_findAll_132 : decode cX12_findAll 132 = .ok (.iconst 0, 1) := by decide +kernel
theorem dX12_findAll_133 : decode cX12_findAll 133 = .ok (.goto 10, 3) := by decide +kernel
theorem dX12_findAll_136 : decode cX12_findAll 136 = .ok (.aload_n 0, 1) := by decide +kernel
theorem dX12_findAll_137 : decode cX12_findAll 137 = .ok (.iload_n 2, 1) := by decide +kernel
theorem dX12_findAll_138 : decode cX12_findAll 138 = .ok (.iload_n 3, 1) := by decide +kernel
theorem dX12_findAll_139 : decode cX12_findAll 139 = .ok (.iload_n 1, 1) := by decide +kernel
theorem dX12_findAll_140 : decode cX12_findAll 140 = .ok (.invokevirtual 253, 3) := by decide +kernel
theorem dX12_findAll_143 : decode cX12_findAll 143 = .ok (.invokevirtual 314, 3) := by decide +kernel
theorem dX12_findAll_146 : decode cX12_findAll 146 = .ok (.iinc 3 1, 3) := by decide +kernel
theorem dX12_findAll_149 : decode cX12_findAll 149 = .ok (.goto (-69), 3) := by decide +kernel
theorem dX12_findAll_152 : decode cX12_findAll 152 = .ok (.iinc 2 1, 3) := by decide +kernel
theorem dX12_findAll_155 : decode cX12_findAll 155 = .ok (.goto (-137), 3) := by decide +kernel
theorem dX12_findAll_158 : decode cX12_findAll 158 = .ok (.iconst 0, 1) := by decide +kernel
theorem dX12_findAll_159 : decode cX12_findAll 159 = .ok (.istore_n 2, 1) := by decide +kernel
theorem dX12_findAll_160 : decode cX12_findAll 160 = .ok (.iload_n 2, 1) := by decide +kernel
theorem dX12_findAll_161 : decode cX12_findAll 161 = .ok (.aload_n 0, 1) := by decide +kernel
theorem dX12_findAll_162 : decode cX12_findAll 162 = .ok (.getfield 243, 3) := by decide +kernel
theorem dX12_findAll_165 : decode cX12_findAll 165 = .ok (.if_icmp .ge 62, 3) := by decide +kernel
theorem dX12_findAll_168 : decode cX12_findAll 168 = .ok (.aload_n 0, 1) := by decide +kernel
theorem dX12_findAll_169 : decode cX12_findAll 169 = .ok (.iload_n 2, 1) := by decide +kernel
theorem dX12_findAll_170 : decode cX12_findAll 170 = .ok (.invokevirtual 338, 3) := by decide +kernel
theorem dX12_findAll_173 : decode cX12_findAll 173 = .ok (.istore_n 3, 1) := by decide +kernel
theorem dX12_findAll_174 : decode cX12_findAll 174 = .ok (.aload_n 0, 1) := by decide +kernel
theorem dX12_findAll_175 : decode cX12_findAll 175 = .ok (.bipush 7, 2) := by decide +kernel
theorem dX12_findAll_177 : decode cX12_findAll 177 = .ok (.aload_n 0, 1) := by decide +kernel
theorem dX12_findAll_178 : decode cX12_findAll 178 = .ok (.getfield 68, 3) := by decide +kernel
theorem dX12_findAll_181 : decode cX12_findAll 181 = .ok (.bipush 9, 2) := by decide +kernel
theorem dX12_findAll_183 : decode cX12_findAll 183 = .ok (.iload_n 2, 1) := by decide +kernel
theorem dX12_findAll_184 : decode cX12_findAll 184 = .ok (.imul, 1) := by decide +kernel
theorem dX12_findAll_185 : decode cX12_findAll 185 = .ok (.iaload, 1) := by decide +kernel
theorem dX12_findAll_186 : decode cX12_findAll 186 = .ok (.aload_n 0, 1) := by decide +kernel
theorem dX12_findAll_187 : decode cX12_findAll 187 = .ok (.getfield 68, 3) := by decide +kernel
theorem dX12_findAll_190 : decode cX12_findAll 190 = .ok (.bipush 9, 2) := by decide +kernel
theorem dX12_findAll_192 : decode cX12_findAll 192 = .ok (.iload_n 2, 1) := by decide +kernel
theorem dX12_findAll_193 : decode cX12_findAll 193 = .ok (.imul, 1) := by decide +kernel
theorem dX12_findAll_194 : decode cX12_findAll 194 = .ok (.iconst 1, 1) := by decide +kernel
theorem dX12_findAll_195 : decode cX12_findAll 195 = .ok (.iadd, 1) := by decide +kernel
theorem dX12_findAll_196 : decode cX12_findAll 196 = .ok (.iaload, 1) := by decide +kernel
theorem dX12_findAll_197 : decode cX12_findAll 197 = .ok (.aload_n 0, 1) := by decide +kernel
theorem dX12_findAll_198 : decode cX12_findAll 198 = .ok (.getfield 68, 3) := by decide +kernel
theorem dX12_findAll_201 : decode cX12_findAll 201 = .ok (.bipush 9, 2) := by decide +kernel
theorem dX12_findAll_203 : decode cX12_findAll 203 = .ok (.iload_n 2, 1) := by decide +kernel
theorem dX12_findAll_204 : decode cX12_findAll 204 = .ok (.imul, 1) := by decide +kernel
theorem dX12_findAll_205 : decode cX12_findAll 205 = .ok (.iconst 2, 1) := by decide +kernel
theorem dX12_findAll_206 : decode cX12_findAll 206 = .ok (.iadd, 1) := by decide +kernel
theorem dX12_findAll_207 : decode cX12_findAll 207 = .ok (.iaload, 1) := by decide +kernel
theorem dX12_findAll_208 : decode cX12_findAll 208 = .ok (.iload_n 3, 1) := by decide +kernel
theorem dX12_findAll_209 : decode cX12_findAll 209 = .ok (.iload_n 1, 1) := by decide +kernel
theorem dX12_findAll_210 : decode cX12_findAll 210 = .ok (.if_icmp .le 7, 3) := by decide +kernel
theorem dX12_findAll_213 : decode cX12_findAll 213 = .ok (.iload_n 3, 1) := by decide +kernel
theorem dX12_findAll_214 : decode cX12_findAll 214 = .ok (.goto 4, 3) := by decide +kernel
theorem dX12_findAll_217 : decode cX12_findAll 217 = .ok (.iconst 0, 1) := by decide +kernel
theorem dX12_findAll_218 : decode cX12_findAll 218 = .ok (.invokevirtual 314, 3) := by decide +kernel
theorem dX12_findAll_221 : decode cX12_findAll 221 = .ok (.iinc 2 1, 3) := by decide +kernel
theorem dX12_findAll_224 : decode cX12_findAll 224 = .ok (.goto (-64), 3) := by decide +kernel
theorem dX12_findAll_227 : decode cX12_findAll 227 = .ok (.return_, 1) := by decide +kernel
theorem dX12_isAhead_0 : decode cX12_isAhead 0 = .ok (.bipush 6, 2) := by decide +kernel
theorem dX12_isAhead_2 : decode cX12_isAhead 2 = .ok (.iload_n 1, 1) := by decide +kernel
theorem dX12_isAhead_3 : decode cX12_isAhead 3 = .ok (.imul, 1) := by decide +kernel
theorem dX12_isAhead_4 : decode cX12_isAhead 4 = .ok (.istore_n 3, 1) := by decide +kernel
theorem dX12_isAhead_5 : decode cX12_isAhead 5 = .ok (.bipush 6, 2) := by decide +kernel
theorem dX12_isAhead_7 : decode cX12_isAhead 7 = .ok (.iload_n 2, 1) := by decide +kernel
theorem dX12_isAhead_8 : decode cX12_isAhead 8 = .ok (.imul, 1) := by decide +kernel
theorem dX12_isAhead_9 : decode cX12_isAhead 9 = .ok (.istore 4, 2) := by decide +kernel
theorem dX12_isAhead_11 : decode cX12_isAhead 11 = .ok (.aload_n 0, 1) := by decide +kernel
theorem dX12_isAhead_12 : decode cX12_isAhead 12 = .ok (.getfield 71, 3) := by decide +kernel
theorem dX12_isAhead_15 : decode cX12_isAhead 15 = .ok (.iload_n 3, 1) := by decide +kernel
theorem dX12_isAhead_16 : decode cX12_isAhead 16 = .ok (.iconst 5, 1) := by decide +kernel
theorem dX12_isAhead_17 : decode cX12_isAhead 17 = .ok (.iadd, 1) := by decide +kernel
theorem dX12_isAhead_18 : decode cX12_isAhead 18 = .ok (.iaload, 1) := by decide +kernel
theorem dX12_isAhead_19 : decode cX12_isAhead 19 = .ok (.aload_n 0, 1) := by decide +kernel
theorem dX12_isAhead_20 : decode cX12_isAhead 20 = .ok (.getfield 71, 3) := by decide +kernel
theorem dX12_isAhead_23 : decode cX12_isAhead 23 = .ok (.iload 4, 2) := by decide +kernel
theorem dX12_isAhead_25 : decode cX12_isAhead 25 = .ok (.iconst 5, 1) := by decide +kernel
theorem dX12_isAhead_26 : decode cX12_isAhead 26 = .ok (.iadd, 1) := by decide +kernel
theorem dX12_isAhead_27 : decode cX12_isAhead 27 = .ok (.iaload, 1) := by decide +kernel
theorem dX12_isAhead_28 : decode cX12_isAhead 28 = .ok (.if_icmp .eq 29, 3) := by decide +kernel
theorem dX12_isAhead_31 : decode cX12_isAhead 31 = .ok (.aload_n 0, 1) := by decide +kernel
theorem dX12_isAhead_32 : decode cX12_isAhead 32 = .ok (.getfield 71, 3) := by decide +kernel
theorem dX12_isAhead_35 : decode cX12_isAhead 35 = .ok (.iload_n 3, 1) := by decide +kernel
theorem dX12_isAhead_36 : decode cX12_isAhead 36 = .ok (.iconst 5, 1) := by decide +kernel
theorem dX12_isAhead_37 : decode cX12_isAhead 37 = .ok (.iadd, 1) := by decide +kernel
theorem dX12_isAhead_38 : decode cX12_isAhead 38 = .ok (.iaload, 1) := by decide +kernel
theorem dX12_isAhead_39 : decode cX12_isAhead 39 = .ok (.aload_n 0, 1) := by decide +kernel
theorem dX12_isAhead_40 : decode cX12_isAhead 40 = .ok (.getfield 71, 3) := by decide +kernel
theorem dX12_isAhead_43 : decode cX12_isAhead 43 = .ok (.iload 4, 2) := by decide +kernel
theorem dX12_isAhead_45 : decode cX12_isAhead 45 = .ok (.iconst 5, 1) := by decide +kernel
theorem dX12_isAhead_46 : decode cX12_isAhead 46 = .ok (.iadd, 1) := by decide +kernel
theorem dX12_isAhead_47 : decode cX12_isAhead 47 = .ok (.iaload, 1) := by decide +kernel
theorem dX12_isAhead_48 : decode cX12_isAhead 48 = .ok (.if_icmp .le 7, 3) := by decide +kernel
theorem dX12_isAhead_51 : decode cX12_isAhead 51 = .ok (.iconst 1, 1) := by decide +kernel
theorem dX12_isAhead_52 : decode cX12_isAhead 52 = .ok (.goto 4, 3) := by decide +kernel
theorem dX12_isAhead_55 : decode cX12_isAhead 55 = .ok (.iconst 0, 1) := by decide +kernel
theorem dX12_isAhead_56 : decode cX12_isAhead 56 = .ok (.ireturn, 1) := by decide +kernel
theorem dX12_isAhead_57 : decode cX12_isAhead 57 = .ok (.iconst 0, 1) := by decide +kernel
theorem dX12_isAhead_58 : decode cX12_isAhead 58 = .ok (.istore 5, 2) := by decide +kernel
theorem dX12_isAhead_60 : decode cX12_isAhead 60 = .ok (.iload 5, 2) := by decide +kernel
theorem dX12_isAhead_62 : decode cX12_isAhead 62 = .ok (.iconst 4, 1) := by decide +kernel
theorem dX12_isAhead_63 : decode cX12_isAhead 63 = .ok (.if_icmp .ge 59, 3) := by decide +kernel
theorem dX12_isAhead_66 : decode cX12_isAhead 66 = .ok (.aload_n 0, 1) := by decide +kernel
theorem dX12_isAhead_67 : decode cX12_isAhead 67 = .ok (.getfield 71, 3) := by decide +kernel
theorem dX12_isAhead_70 : decode cX12_isAhead 70 = .ok (.iload_n 3, 1) := by decide +kernel
theorem dX12_isAhead_71 : decode cX12_isAhead 71 = .ok (.iload 5, 2) := by decide +kernel
theorem dX12_isAhead_73 : decode cX12_isAhead 73 = .ok (.iadd, 1) := by decide +kernel
theorem dX12_isAhead_74 : decode cX12_isAhead 74 = .ok (.iaload, 1) := by decide +kernel
theorem dX12_isAhead_75 : decode cX12_isAhead 75 = .ok (.aload_n 0, 1) := by decide +kernel
theorem dX12_isAhead_76 : decode cX12_isAhead 76 = .ok (.getfield 71, 3) := by decide +kernel
theorem dX12_isAhead_79 : decode cX12_isAhead 79 = .ok (.iload 4, 2) := by decide +kernel
theorem dX12_isAhead_81 : decode cX12_isAhead 81 = .ok (.iload 5, 2) := by decide +kernel
theorem dX12_isAhead_83 : decode cX12_isAhead 83 = .ok (.iadd, 1) := by decide +kernel
theorem dX12_isAhead_84 : decode cX12_isAhead 84 = .ok (.iaload, 1) := by decide +kernel
theorem dX12_isAhead_85 : decode cX12_isAhead 85 = .ok (.if_icmp .eq 31, 3) := by decide +kernel
theorem dX12_isAhead_88 : decode cX12_isAhead 88 = .ok (.aload_n 0, 1) := by decide +kernel
theorem dX12_isAhead_89 : decode cX12_isAhead 89 = .ok (.getfield 71, 3) := by decide +kernel
theorem dX12_isAhead_92 : decode cX12_isAhead 92 = .ok (.iload_n 3, 1) := by decide +kernel
theorem dX12_isAhead_93 : decode cX12_isAhead 93 = .ok (.iload 5, 2) := by decide +kernel
theorem dX12_isAhead_95 : decode cX12_isAhead 95 = .ok (.iadd, 1) := by decide +kernel
theorem dX12_isAhead_96 : decode cX12_isAhead 96 = .ok (.iaload, 1) := by decide +kernel
theorem dX12_isAhead_97 : decode cX12_isAhead 97 = .ok (.aload_n 0, 1) := by decide +kernel
theorem dX12_isAhead_98 : decode cX12_isAhead 98 = .ok (.getfield 71, 3) := by decide +kernel
theorem dX12_isAhead_101 : decode cX12_isAhead 101 = .ok (.iload 4, 2) := by decide +kernel
theorem dX12_isAhead_103 : decode cX12_isAhead 103 = .ok (.iload 5, 2) := by decide +kernel
theorem dX12_isAhead_105 : decode cX12_isAhead 105 = .ok (.iadd, 1) := by decide +kernel
theorem dX12_isAhead_106 : decode cX12_isAhead 106 = .ok (.iaload, 1) := by decide +kernel
theorem dX12_isAhead_107 : decode cX12_isAhead 107 = .ok (.if_icmp .ge 7, 3) := by decide +kernel
theorem dX12_isAhead_110 : decode cX12_isAhead 110 = .ok (.iconst 1, 1) := by decide +kernel
theorem dX12_isAhead_111 : decode cX12_isAhead 111 = .ok (.goto 4, 3) := by decide +kernel
theorem dX12_isAhead_114 : decode cX12_isAhead 114 = .ok (.iconst 0, 1) := by decide +kernel
theorem dX12_isAhead_115 : decode cX12_isAhead 115 = .ok (.ireturn, 1) := by decide +kernel
theorem dX12_isAhead_116 : decode cX12_isAhead 116 = .ok (.iinc 5 1, 3) := by decide +kernel
theorem dX12_isAhead_119 : decode cX12_isAhead 119 = .ok (.goto (-59), 3) := by decide +kernel
theorem dX12_isAhead_122 : decode cX12_isAhead 122 = .ok (.iconst 0, 1) := by decide +kernel
theorem dX12_isAhead_123 : decode cX12_isAhead 123 = .ok (.ireturn, 1) := by decide +kernel
theorem dX12_placed_0 : decode cX12_placed 0 = .ok (.aload_n 0, 1) := by decide +kernel
theorem dX12_placed_1 : decode cX12_placed 1 = .ok (.invokevirtual 341, 3) := by decide +kernel
theorem dX12_placed_4 : decode cX12_placed 4 = .ok (.iconst 0, 1) := by decide +kernel
theorem dX12_placed_5 : decode cX12_placed 5 = .ok (.istore_n 2, 1) := by decide +kernel
theorem dX12_placed_6 : decode cX12_placed 6 = .ok (.iload_n 2, 1) := by decide +kernel
theorem dX12_placed_7 : decode cX12_placed 7 = .ok (.aload_n 0, 1) := by decide +kernel
theorem dX12_placed_8 : decode cX12_placed 8 = .ok (.getfield 308, 3) := by decide +kernel
theorem dX12_placed_11 : decode cX12_placed 11 = .ok (.if_icmp .ge 70, 3) := by decide +kernel
theorem dX12_placed_14 : decode cX12_placed 14 = .ok (.iconst 0, 1) := by decide +kernel
theorem dX12_placed_15 : decode cX12_placed 15 = .ok (.istore_n 3, 1) := by decide +kernel
theorem dX12_placed_16 : decode cX12_placed 16 = .ok (.iconst 0, 1) := by decide +kernel
theorem dX12_placed_17 : decode cX12_placed 17 = .ok (.istore 4, 2) := by decide +kernel
theorem dX12_placed_19 : decode cX12_placed 19 = .ok (.iload 4, 2) := by decide +kernel
theorem dX12_placed_21 : decode cX12_placed 21 = .ok (.aload_n 0, 1) := by decide +kernel
theorem dX12_placed_22 : decode cX12_placed 22 = .ok (.getfield 308, 3) := by decide +kernel
theorem dX12_placed_25 : decode cX12_placed 25 = .ok (.if_icmp .ge 43, 3) := by decide +kernel
theorem dX12_placed_28 : decode cX12_placed 28 = .ok (.iload_n 3, 1) := by decide +kernel
theorem dX12_placed_29 : decode cX12_placed 29 = .ok (.aload_n 0, 1) := by decide +kernel
theorem dX12_placed_30 : decode cX12_placed 30 = .ok (.iload 4, 2) := by decide +kernel
theorem dX12_placed_32 : decode cX12_placed 32 = .ok (.iload_n 2, 1) := by decide +kernel
theorem dX12_placed_33 : decode cX12_placed 33 = .ok (.invokevirtual 344, 3) := by decide +kernel
theorem dX12_placed_36 : decode cX12_placed 36 = .ok (.ifCond .ne 19, 3) := by decide +kernel
theorem dX12_placed_39 : decode cX12_placed 39 = .ok (.iload 4, 2) := by decide +kernel
theorem dX12_placed_41 : decode cX12_placed 41 = .ok (.iload_n 2, 1) := by decide +kernel
theorem dX12_placed_42 : decode cX12_placed 42 = .ok (.if_icmp .ge 17, 3) := by decide +kernel
theorem dX12_placed_45 : decode cX12_placed 45 = .ok (.aload_n 0, 1) := by decide +kernel
theorem dX12_placed_46 : decode cX12_placed 46 = .ok (.iload_n 2, 1) := by decide +kernel
theorem dX12_placed_47 : decode cX12_placed 47 = .ok (.iload 4, 2) := by decide +kernel
theorem dX12_placed_49 : decode cX12_placed 49 = .ok (.invokevirtual 344, 3) := by decide +kernel
theorem dX12_placed_52 : decode cX12_placed 52 = .ok (.ifCond .ne 7, 3) := by decide +kernel
theorem dX12_placed_55 : decode cX12_placed 55 = .ok (.iconst 1, 1) := by decide +kernel
theorem dX12_placed_56 : decode cX12_placed 56 = .ok (.goto 4, 3) := by decide +kernel
theorem dX12_placed_59 : decode cX12_placed 59 = .ok (.iconst 0, 1) := by decide +kernel
theorem dX12_placed_60 : decode cX12_placed 60 = .ok (.iadd, 1) := by decide +kernel
theorem dX12_placed_61 : decode cX12_placed 61 = .ok (.istore_n 3, 1) := by decide +kernel
theorem dX12_placed_62 : decode cX12_placed 62 = .ok (.iinc 4 1, 3) := by decide +kernel
theorem dX12_placed_65 : decode cX12_placed 65 = .ok (.goto (-46), 3) := by decide +kernel
theorem dX12_placed_68 : decode cX12_placed 68 = .ok (.iload_n 3, 1) := by decide +kernel
theorem dX12_placed_69 : decode cX12_placed 69 = .ok (.iload_n 1, 1) := by decide +kernel
theorem dX12_placed_70 : decode cX12_placed 70 = .ok (.if_icmp .ne 5, 3) := by decide +kernel
theorem dX12_placed_73 : decode cX12_placed 73 = .ok (.iload_n 2, 1) := by decide +kernel
theorem dX12_placed_74 : decode cX12_placed 74 = .ok (.ireturn, 1) := by decide +kernel
theorem dX12_placed_75 : decode cX12_placed 75 = .ok (.iinc 2 1, 3) := by decide +kernel
theorem dX12_placed_78 : decode cX12_placed 78 = .ok (.goto (-72), 3) := by decide +kernel
theorem dX12_placed_81 : decode cX12_placed 81 = .ok (.bipush (-9), 2) := by decide +kernel
theorem dX12_placed_83 : decode cX12_placed 83 = .ok (.ireturn, 1) := by decide +kernel
theorem dX12_costs_0 : decode cX12_costs 0 = .ok (.aload_n 0, 1) := by decide +kernel
theorem dX12_costs_1 : decode cX12_costs 1 = .ok (.invokevirtual 341, 3) := by decide +kernel
theorem dX12_costs_4 : decode cX12_costs 4 = .ok (.lconst 0, 1) := by decide +kernel
theorem dX12_costs_5 : decode cX12_costs 5 = .ok (.lstore_n 2, 1) := by decide +kernel
theorem dX12_costs_6 : decode cX12_costs 6 = .ok (.iconst 0, 1) := by decide +kernel
theorem dX12_costs_7 : decode cX12_costs 7 = .ok (.istore 4, 2) := by decide +kernel
theorem dX12_costs_9 : decode cX12_costs 9 = .ok (.iload 4, 2) := by decide +kernel
theorem dX12_costs_11 : decode cX12_costs 11 = .ok (.bipush 6, 2) := by decide +kernel
theorem dX12_costs_13 : decode cX12_costs 13 = .ok (.aload_n 0, 1) := by decide +kernel
theorem dX12_costs_14 : decode cX12_costs 14 = .ok (.getfield 308, 3) := by decide +kernel
theorem dX12_costs_17 : decode cX12_costs 17 = .ok (.imul, 1) := by decide +kernel
theorem dX12_costs_18 : decode cX12_costs 18 = .ok (.if_icmp .ge 58, 3) := by decide +kernel
theorem dX12_costs_21 : decode cX12_costs 21 = .ok (.lload_n 2, 1) := by decide +kernel
theorem dX12_costs_22 : decode cX12_costs 22 = .ok (.iload_n 1, 1) := by decide +kernel
theorem dX12_costs_23 : decode cX12_costs 23 = .ok (.bipush (-9), 2) := by decide +kernel
theorem dX12_costs_25 : decode cX12_costs 25 = .ok (.if_icmp .eq 29, 3) := by decide +kernel
theorem dX12_costs_28 : decode cX12_costs 28 = .ok (.aload_n 0, 1) := by decide +kernel
theorem dX12_costs_29 : decode cX12_costs 29 = .ok (.getfield 71, 3) := by decide +kernel
theorem dX12_costs_32 : decode cX12_costs 32 = .ok (.iload 4, 2) := by decide +kernel
theorem dX12_costs_34 : decode cX12_costs 34 = .ok (.iconst 1, 1) := by decide +kernel
theorem dX12_costs_35 : decode cX12_costs 35 = .ok (.iadd, 1) := by decide +kernel
theorem dX12_costs_36 : decode cX12_costs 36 = .ok (.iaload, 1) := by decide +kernel
theorem dX12_costs_37 : decode cX12_costs 37 = .ok (.iload_n 1, 1) := by decide +kernel
theorem dX12_costs_38 : decode cX12_costs 38 = .ok (.if_icmp .eq 16, 3) := by decide +kernel
theorem dX12_costs_41 : decode cX12_costs 41 = .ok (.aload_n 0, 1) := by decide +kernel
theorem dX12_costs_42 : decode cX12_costs 42 = .ok (.getfield 71, 3) := by decide +kernel
theorem dX12_costs_45 : decode cX12_costs 45 = .ok (.iload 4, 2) := by decide +kernel
theorem dX12_costs_47 : decode cX12_costs 47 = .ok (.iconst 3, 1) := by decide +kernel
theorem dX12_costs_48 : decode cX12_costs 48 = .ok (.iadd, 1) := by decide +kernel
theorem dX12_costs_49 : decode cX12_costs 49 = .ok (.iaload, 1) := by decide +kernel
theorem dX12_costs_50 : decode cX12_costs 50 = .ok (.iload_n 1, 1) := by decide +kernel
theorem dX12_costs_51 : decode cX12_costs 51 = .ok (.if_icmp .ne 16, 3) := by decide +kernel
theorem dX12_costs_54 : decode cX12_costs 54 = .ok (.aload_n 0, 1) := by decide +kernel
theorem dX12_costs_55 : decode cX12_costs 55 = .ok (.getfield 71, 3) := by decide +kernel
theorem dX12_costs_58 : decode cX12_costs 58 = .ok (.iload 4, 2) := by decide +kernel
theorem dX12_costs_60 : decode cX12_costs 60 = .ok (.iconst 5, 1) := by decide +kernel
theorem dX12_costs_61 : decode cX12_costs 61 = .ok (.iadd, 1) := by decide +kernel
theorem dX12_costs_62 : decode cX12_costs 62 = .ok (.iaload, 1) := by decide +kernel
theorem dX12_costs_63 : decode cX12_costs 63 = .ok (.i2l, 1) := by decide +kernel
theorem dX12_costs_64 : decode cX12_costs 64 = .ok (.goto 4, 3) := by decide +kernel
theorem dX12_costs_67 : decode cX12_costs 67 = .ok (.lconst 0, 1) := by decide +kernel
theorem dX12_costs_68 : decode cX12_costs 68 = .ok (.ladd, 1) := by decide +kernel
theorem dX12_costs_69 : decode cX12_costs 69 = .ok (.lstore_n 2, 1) := by decide +kernel
theorem dX12_costs_70 : decode cX12_costs 70 = .ok (.iinc 4 6, 3) := by decide +kernel
theorem dX12_costs_73 : decode cX12_costs 73 = .ok (.goto (-64), 3) := by decide +kernel
theorem dX12_costs_76 : decode cX12_costs 76 = .ok (.lload_n 2, 1) := by decide +kernel
theorem dX12_costs_77 : decode cX12_costs 77 = .ok (.lreturn, 1) := by decide +kernel
theorem dX12_findingCount_0 : decode cX12_findingCount 0 = .ok (.aload_n 0, 1) := by decide +kernel
theorem dX12_findingCount_1 : decode cX12_findingCount 1 = .ok (.invokevirtual 341, 3) := by decide +kernel
theorem dX12_findingCount_4 : decode cX12_findingCount 4 = .ok (.aload_n 0, 1) := by decide +kernel
theorem dX12_findingCount_5 : decode cX12_findingCount 5 = .ok (.getfield 308, 3) := by decide +kernel
theorem dX12_findingCount_8 : decode cX12_findingCount 8 = .ok (.ireturn, 1) := by decide +kernel
theorem dX12_finding_0 : decode cX12_finding 0 = .ok (.iload_n 1, 1) := by decide +kernel
theorem dX12_finding_1 : decode cX12_finding 1 = .ok (.ifCond .lt 12, 3) := by decide +kernel
theorem dX12_finding_4 : decode cX12_finding 4 = .ok (.iload_n 2, 1) := by decide +kernel
theorem dX12_finding_5 : decode cX12_finding 5 = .ok (.iconst 0, 1) := by decide +kernel
theorem dX12_finding_6 : decode cX12_finding 6 = .ok (.iconst 5, 1) := by decide +kernel
theorem dX12_finding_7 : decode cX12_finding 7 = .ok (.invokestatic 87, 3) := by decide +kernel
theorem dX12_finding_10 : decode cX12_finding 10 = .ok (.ifCond .ne 8, 3) := by decide +kernel
theorem dX12_finding_13 : decode cX12_finding 13 = .ok (.bipush (-9), 2) := by decide +kernel
theorem dX12_finding_15 : decode cX12_finding 15 = .ok (.goto 8, 3) := by decide +kernel
theorem dX12_finding_18 : decode cX12_finding 18 = .ok (.aload_n 0, 1) := by decide +kernel
theorem dX12_finding_19 : decode cX12_finding 19 = .ok (.iload_n 1, 1) := by decide +kernel
theorem dX12_finding_20 : decode cX12_finding 20 = .ok (.invokevirtual 347, 3) := by decide +kernel
theorem dX12_finding_23 : decode cX12_finding 23 = .ok (.istore_n 3, 1) := by decide +kernel
theorem dX12_finding_24 : decode cX12_finding 24 = .ok (.iload_n 3, 1) := by decide +kernel
theorem dX12_finding_25 : decode cX12_finding 25 = .ok (.bipush (-9), 2) := by decide +kernel
theorem dX12_finding_27 : decode cX12_finding 27 = .ok (.if_icmp .ne 7, 3) := by decide +kernel
theorem dX12_finding_30 : decode cX12_finding 30 = .ok (.iconst (-1), 1) := by decide +kernel
theorem dX12_finding_31 : decode cX12_finding 31 = .ok (.goto 14, 3) := by decide +kernel
theorem dX12_finding_34 : decode cX12_finding 34 = .ok (.aload_n 0, 1) := by decide +kernel
theorem dX12_finding_35 : decode cX12_finding 35 = .ok (.getfield 71, 3) := by decide +kernel
theorem dX12_finding_38 : decode cX12_finding 38 = .ok (.bipush 6, 2) := by decide +kernel
theorem dX12_finding_40 : decode cX12_finding 40 = .ok (.iload_n 3, 1) := by decide +kernel
theorem dX12_finding_41 : decode cX12_finding 41 = .ok (.imul, 1) := by decide +kernel
theorem dX12_finding_42 : decode cX12_finding 42 = .ok (.iload_n 2, 1) := by decide +kernel
theorem dX12_finding_43 : decode cX12_finding 43 = .ok (.iadd, 1) := by decide +kernel
theorem dX12_finding_44 : decode cX12_finding 44 = .ok (.iaload, 1) := by decide +kernel
theorem dX12_finding_45 : decode cX12_finding 45 = .ok (.ireturn, 1) := by decide +kernel
theorem dX12_totalCost_0 : decode cX12_totalCost 0 = .ok (.aload_n 0, 1) := by decide +kernel
theorem dX12_totalCost_1 : decode cX12_totalCost 1 = .ok (.bipush (-9), 2) := by decide +kernel
theorem dX12_totalCost_3 : decode cX12_totalCost 3 = .ok (.invokevirtual 350, 3) := by decide +kernel
theorem dX12_totalCost_6 : decode cX12_totalCost 6 = .ok (.lreturn, 1) := by decide +kernel
theorem dX12_panelCost_0 : decode cX12_panelCost 0 = .ok (.aload_n 0, 1) := by decide +kernel
theorem dX12_panelCost_1 : decode cX12_panelCost 1 = .ok (.iload_n 1, 1) := by decide +kernel
theorem dX12_panelCost_2 : decode cX12_panelCost 2 = .ok (.invokevirtual 145, 3) := by decide +kernel
theorem dX12_panelCost_5 : decode cX12_panelCost 5 = .ok (.ifCond .eq 11, 3) := by decide +kernel
theorem dX12_panelCost_8 : decode cX12_panelCost 8 = .ok (.aload_n 0, 1) := by decide +kernel
theorem dX12_panelCost_9 : decode cX12_panelCost 9 = .ok (.iload_n 1, 1) := by decide +kernel
theorem dX12_panelCost_10 : decode cX12_panelCost 10 = .ok (.invokevirtual 350, 3) := by decide +kernel
theorem dX12_panelCost_13 : decode cX12_panelCost 13 = .ok (.goto 6, 3) := by decide +kernel
theorem dX12_panelCost_16 : decode cX12_panelCost 16 = .ok (.ldc2_w 354, 3) := by decide +kernel
theorem dX12_panelCost_19 : decode cX12_panelCost 19 = .ok (.lreturn, 1) := by decide +kernel
theorem dX12_bestDepth_0 : decode cX12_bestDepth 0 = .ok (.aload_n 0, 1) := by decide +kernel
theorem dX12_bestDepth_1 : decode cX12_bestDepth 1 = .ok (.iload_n 1, 1) := by decide +kernel
theorem dX12_bestDepth_2 : decode cX12_bestDepth 2 = .ok (.invokevirtual 149, 3) := by decide +kernel
theorem dX12_bestDepth_5 : decode cX12_bestDepth 5 = .ok (.ifCond .ne 5, 3) := by decide +kernel
theorem dX12_bestDepth_8 : decode cX12_bestDepth 8 = .ok (.iconst (-1), 1) := by decide +kernel
theorem dX12_bestDepth_9 : decode cX12_bestDepth 9 = .ok (.ireturn, 1) := by decide +kernel
theorem dX12_bestDepth_10 : decode cX12_bestDepth 10 = .ok (.aload_n 0, 1) := by decide +kernel
theorem dX12_bestDepth_11 : decode cX12_bestDepth 11 = .ok (.invokevirtual 103, 3) := by decide +kernel
theorem dX12_bestDepth_14 : decode cX12_bestDepth 14 = .ok (.aload_n 0, 1) := by decide +kernel
theorem dX12_bestDepth_15 : decode cX12_bestDepth 15 = .ok (.iload_n 1, 1) := by decide +kernel
theorem dX12_bestDepth_16 : decode cX12_bestDepth 16 = .ok (.iconst 4, 1) := by decide +kernel
theorem dX12_bestDepth_17 : decode cX12_bestDepth 17 = .ok (.invokevirtual 91, 3) := by decide +kernel
theorem dX12_bestDepth_20 : decode cX12_bestDepth 20 = .ok (.istore_n 2, 1) := by decide +kernel
theorem dX12_bestDepth_21 : decode cX12_bestDepth 21 = .ok (.bipush (-9), 2) := by decide +kernel
theorem dX12_bestDepth_23 : decode cX12_bestDepth 23 = .ok (.istore_n 3, 1) := by decide +kernel
theorem dX12_bestDepth_24 : decode cX12_bestDepth 24 = .ok (.lconst 0, 1) := by decide +kernel
theorem dX12_bestDepth_25 : decode cX12_bestDepth 25 = .ok (.lstore 4, 2) := by decide +kernel
theorem dX12_bestDepth_27 : decode cX12_bestDepth 27 = .ok (.iconst 1, 1) := by decide +kernel
theorem dX12_bestDepth_28 : decode cX12_bestDepth 28 = .ok (.istore 6, 2) := by decide +kernel
theorem dX12_bestDepth_30 : decode cX12_bestDepth 30 = .ok (.iload 6, 2) := by decide +kernel
theorem dX12_bestDepth_32 : decode cX12_bestDepth 32 = .ok (.bipush 100, 2) := by decide +kernel
theorem dX12_bestDepth_34 : decode cX12_bestDepth 34 = .ok (.if_icmp .gt 95, 3) := by decide +kernel
theorem dX12_bestDepth_37 : decode cX12_bestDepth 37 = .ok (.aload_n 0, 1) := by decide +kernel
theorem dX12_bestDepth_38 : decode cX12_bestDepth 38 = .ok (.iload_n 1, 1) := by decide +kernel
theorem dX12_bestDepth_39 : decode cX12_bestDepth 39 = .ok (.iconst 4, 1) := by decide +kernel
theorem dX12_bestDepth_40 : decode cX12_bestDepth 40 = .ok (.iload 6, 2) := by decide +kernel
theorem dX12_bestDepth_42 : decode cX12_bestDepth 42 = .ok (.invokevirtual 137, 3) := by decide +kernel
theorem dX12_bestDepth_45 : decode cX12_bestDepth 45 = .ok (.aload_n 0, 1) := by decide +kernel
theorem dX12_bestDepth_46 : decode cX12_bestDepth 46 = .ok (.invokevirtual 133, 3) := by decide +kernel
theorem dX12_bestDepth_49 : decode cX12_bestDepth 49 = .ok (.ifCond .eq 74, 3) := by decide +kernel
theorem dX12_bestDepth_52 : decode cX12_bestDepth 52 = .ok (.aload_n 0, 1) := by decide +kernel
theorem dX12_bestDepth_53 : decode cX12_bestDepth 53 = .ok (.bipush (-9), 2) := by decide +kernel
theorem dX12_bestDepth_55 : decode cX12_bestDepth 55 = .ok (.invokevirtual 350, 3) := by decide +kernel
theorem dX12_bestDepth_58 : decode cX12_bestDepth 58 = .ok (.lstore 7, 2) := by decide +kernel
theorem dX12_bestDepth_60 : decode cX12_bestDepth 60 = .ok (.iload_n 3, 1) := by decide +kernel
theorem dX12_bestDepth_61 : decode cX12_bestDepth 61 = .ok (.bipush (-9), 2) := by decide +kernel
theorem dX12_bestDepth_63 : decode cX12_bestDepth 63 = .ok (.if_icmp .eq 31, 3) := by decide +kernel
theorem dX12_bestDepth_66 : decode cX12_bestDepth 66 = .ok (.lload 7, 2) := by decide +kernel
theorem dX12_bestDepth_68 : decode cX12_bestDepth 68 = .ok (.lload 4, 2) := by decide +kernel
theorem dX12_bestDepth_70 : decode cX12_bestDepth 70 = .ok (.lcmp, 1) := by decide +kernel
theorem dX12_bestDepth_71 : decode cX12_bestDepth 71 = .ok (.ifCond .ne 23, 3) := by decide +kernel
theorem dX12_bestDepth_74 : decode cX12_bestDepth 74 = .ok (.iload 6, 2) := by decide +kernel
theorem dX12_bestDepth_76 : decode cX12_bestDepth 76 = .ok (.iload_n 2, 1) := by decide +kernel
theorem dX12_bestDepth_77 : decode cX12_bestDepth 77 = .ok (.isub, 1) := by decide +kernel
theorem dX12_bestDepth_78 : decode cX12_bestDepth 78 = .ok (.invokestatic 222, 3) := by decide +kernel
theorem dX12_bestDepth_81 : decode cX12_bestDepth 81 = .ok (.iload_n 3, 1) := by decide +kernel
theorem dX12_bestDepth_82 : decode cX12_bestDepth 82 = .ok (.iload_n 2, 1) := by decide +kernel
theorem dX12_bestDepth_83 : decode cX12_bestDepth 83 = .ok (.isub, 1) := by decide +kernel
theorem dX12_bestDepth_84 : decode cX12_bestDepth 84 = .ok (.invokestatic 222, 3) := by decide +kernel
theorem dX12_bestDepth_87 : decode cX12_bestDepth 87 = .ok (.if_icmp .ge 7, 3) := by decide +kernel
theorem dX12_bestDepth_90 : decode cX12_bestDepth 90 = .ok (.iconst 1, 1) := by decide +kernel
theorem dX12_bestDepth_91 : decode cX12_bestDepth 91 = .ok (.goto 4, 3) := by decide +kernel
theorem dX12_bestDepth_94 : decode cX12_bestDepth 94 = .ok (.iconst 0, 1) := by decide +kernel
theorem dX12_bestDepth_95 : decode cX12_bestDepth 95 = .ok (.istore 9, 2) := by decide +kernel
theorem dX12_bestDepth_97 : decode cX12_bestDepth 97 = .ok (.iload_n 3, 1) := by decide +kernel
theorem dX12_bestDepth_98 : decode cX12_bestDepth 98 = .ok (.bipush (-9), 2) := by decide +kernel
theorem dX12_bestDepth_100 : decode cX12_bestDepth 100 = .ok (.if_icmp .eq 16, 3) := by decide +kernel
theorem dX12_bestDepth_103 : decode cX12_bestDepth 103 = .ok (.lload 7, 2) := by decide +kernel
theorem dX12_bestDepth_105 : decode cX12_bestDepth 105 = .ok (.lload 4, 2) := by decide +kernel
theorem dX12_bestDepth_107 : decode cX12_bestDepth 107 = .ok (.lcmp, 1) := by decide +kernel
theorem dX12_bestDepth_108 : decode cX12_bestDepth 108 = .ok (.ifCond .lt 8, 3) := by decide +kernel
theorem dX12_bestDepth_111 : decode cX12_bestDepth 111 = .ok (.iload 9, 2) := by decide +kernel
theorem dX12_bestDepth_113 : decode cX12_bestDepth 113 = .ok (.ifCond .eq 10, 3) := by decide +kernel
theorem dX12_bestDepth_116 : decode cX12_bestDepth 116 = .ok (.iload 6, 2) := by decide +kernel
theorem dX12_bestDepth_118 : decode cX12_bestDepth 118 = .ok (.istore_n 3, 1) := by decide +kernel
theorem dX12_bestDepth_119 : decode cX12_bestDepth 119 = .ok (.lload 7, 2) := by decide +kernel
theorem dX12_bestDepth_121 : decode cX12_bestDepth 121 = .ok (.lstore 4, 2) := by decide +kernel
theorem dX12_bestDepth_123 : decode cX12_bestDepth 123 = .ok (.iinc 6 1, 3) := by decide +kernel
theorem dX12_bestDepth_126 : decode cX12_bestDepth 126 = .ok (.goto (-96), 3) := by decide +kernel
theorem dX12_bestDepth_129 : decode cX12_bestDepth 129 = .ok (.aload_n 0, 1) := by decide +kernel
theorem dX12_bestDepth_130 : decode cX12_bestDepth 130 = .ok (.iload_n 1, 1) := by decide +kernel
theorem dX12_bestDepth_131 : decode cX12_bestDepth 131 = .ok (.iconst 4, 1) := by decide +kernel
theorem dX12_bestDepth_132 : decode cX12_bestDepth 132 = .ok (.iload_n 2, 1) := by decide +kernel
theorem dX12_bestDepth_133 : decode cX12_bestDepth 133 = .ok (.invokevirtual 137, 3) := by decide +kernel
theorem dX12_bestDepth_136 : decode cX12_bestDepth 136 = .ok (.iload_n 3, 1) := by decide +kernel
theorem dX12_bestDepth_137 : decode cX12_bestDepth 137 = .ok (.ireturn, 1) := by decide +kernel
theorem dX12_bestAngle_0 : decode cX12_bestAngle 0 = .ok (.aload_n 0, 1) := by decide +kernel
theorem dX12_bestAngle_1 : decode cX12_bestAngle 1 = .ok (.iload_n 1, 1) := by decide +kernel
theorem dX12_bestAngle_2 : decode cX12_bestAngle 2 = .ok (.invokevirtual 149, 3) := by decide +kernel
theorem dX12_bestAngle_5 : decode cX12_bestAngle 5 = .ok (.ifCond .ne 5, 3) := by decide +kernel
theorem dX12_bestAngle_8 : decode cX12_bestAngle 8 = .ok (.iconst (-1), 1) := by decide +kernel
theorem dX12_bestAngle_9 : decode cX12_bestAngle 9 = .ok (.ireturn, 1) := by decide +kernel
theorem dX12_bestAngle_10 : decode cX12_bestAngle 10 = .ok (.aload_n 0, 1) := by decide +kernel
theorem dX12_bestAngle_11 : decode cX12_bestAngle 11 = .ok (.iload_n 1, 1) := by decide +kernel
theorem dX12_bestAngle_12 : decode cX12_bestAngle 12 = .ok (.iconst 5, 1) := by decide +kernel
theorem dX12_bestAngle_13 : decode cX12_bestAngle 13 = .ok (.invokevirtual 91, 3) := by decide +kernel
theorem dX12_bestAngle_16 : decode cX12_bestAngle 16 = .ok (.istore_n 2, 1) := by decide +kernel
theorem dX12_bestAngle_17 : decode cX12_bestAngle 17 = .ok (.iload_n 2, 1) := by decide +kernel
theorem dX12_bestAngle_18 : decode cX12_bestAngle 18 = .ok (.istore_n 3, 1) := by decide +kernel
theorem dX12_bestAngle_19 : decode cX12_bestAngle 19 = .ok (.aload_n 0, 1) := by decide +kernel
theorem dX12_bestAngle_20 : decode cX12_bestAngle 20 = .ok (.bipush (-9), 2) := by decide +kernel
theorem dX12_bestAngle_22 : decode cX12_bestAngle 22 = .ok (.invokevirtual 350, 3) := by decide +kernel
theorem dX12_bestAngle_25 : decode cX12_bestAngle 25 = .ok (.lstore 4, 2) := by decide +kernel
theorem dX12_bestAngle_27 : decode cX12_bestAngle 27 = .ok (.iconst (-1), 1) := by decide +kernel
theorem dX12_bestAngle_28 : decode cX12_bestAngle 28 = .ok (.istore 6, 2) := by decide +kernel
theorem dX12_bestAngle_30 : decode cX12_bestAngle 30 = .ok (.iload 6, 2) := by decide +kernel
theorem dX12_bestAngle_32 : decode cX12_bestAngle 32 = .ok (.iconst 2, 1) := by decide +kernel
theorem dX12_bestAngle_33 : decode cX12_bestAngle 33 = .ok (.if_icmp .gt 40, 3) := by decide +kernel
theorem dX12_bestAngle_36 : decode cX12_bestAngle 36 = .ok (.aload_n 0, 1) := by decide +kernel
theorem dX12_bestAngle_37 : decode cX12_bestAngle 37 = .ok (.iload_n 1, 1) := by decide +kernel
theorem dX12_bestAngle_38 : decode cX12_bestAngle 38 = .ok (.iconst 5, 1) := by decide +kernel
theorem dX12_bestAngle_39 : decode cX12_bestAngle 39 = .ok (.iload 6, 2) := by decide +kernel
theorem dX12_bestAngle_41 : decode cX12_bestAngle 41 = .ok (.invokevirtual 137, 3) := by decide +kernel
theorem dX12_bestAngle_44 : decode cX12_bestAngle 44 = .ok (.aload_n 0, 1) := by decide +kernel
theorem dX12_bestAngle_45 : decode cX12_bestAngle 45 = .ok (.bipush (-9), 2) := by decide +kernel
theorem dX12_bestAngle_47 : decode cX12_bestAngle 47 = .ok (.invokevirtual 350, 3) := by decide +kernel
theorem dX12_bestAngle_50 : decode cX12_bestAngle 50 = .ok (.lstore 7, 2) := by decide +kernel
theorem dX12_bestAngle_52 : decode cX12_bestAngle 52 = .ok (.lload 7, 2) := by decide +kernel
theorem dX12_bestAngle_54 : decode cX12_bestAngle 54 = .ok (.lload 4, 2) := by decide +kernel
theorem dX12_bestAngle_56 : decode cX12_bestAngle 56 = .ok (.lcmp, 1) := by decide +kernel
theorem dX12_bestAngle_57 : decode cX12_bestAngle 57 = .ok (.ifCond .ge 10, 3) := by decide +kernel
theorem dX12_bestAngle_60 : decode cX12_bestAngle 60 = .ok (.iload 6, 2) := by decide +kernel
theorem dX12_bestAngle_62 : decode cX12_bestAngle 62 = .ok (.istore_n 3, 1) := by decide +kernel
theorem dX12_bestAngle_63 : decode cX12_bestAngle 63 = .ok (.lload 7, 2) := by decide +kernel
theorem dX12_bestAngle_65 : decode cX12_bestAngle 65 = .ok (.lstore 4, 2) := by decide +kernel
theorem dX12_bestAngle_67 : decode cX12_bestAngle 67 = .ok (.iinc 6 1, 3) := by decide +kernel
theorem dX12_bestAngle_70 : decode cX12_bestAngle 70 = .ok (.goto (-40), 3) := by decide +kernel
theorem dX12_bestAngle_73 : decode cX12_bestAngle 73 = .ok (.aload_n 0, 1) := by decide +kernel
theorem dX12_bestAngle_74 : decode cX12_bestAngle 74 = .ok (.iload_n 1, 1) := by decide +kernel
theorem dX12_bestAngle_75 : decode cX12_bestAngle 75 = .ok (.iconst 5, 1) := by decide +kernel
theorem dX12_bestAngle_76 : decode cX12_bestAngle 76 = .ok (.iload_n 2, 1) := by decide +kernel
theorem dX12_bestAngle_77 : decode cX12_bestAngle 77 = .ok (.invokevirtual 137, 3) := by decide +kernel
theorem dX12_bestAngle_80 : decode cX12_bestAngle 80 = .ok (.iload_n 3, 1) := by decide +kernel
theorem dX12_bestAngle_81 : decode cX12_bestAngle 81 = .ok (.ireturn, 1) := by decide +kernel
theorem dX12_flat_0 : decode cX12_flat 0 = .ok (.aload_n 0, 1) := by decide +kernel
theorem dX12_flat_1 : decode cX12_flat 1 = .ok (.iload_n 1, 1) := by decide +kernel
theorem dX12_flat_2 : decode cX12_flat 2 = .ok (.invokevirtual 145, 3) := by decide +kernel
theorem dX12_flat_5 : decode cX12_flat 5 = .ok (.ifCond .eq 12, 3) := by decide +kernel
theorem dX12_flat_8 : decode cX12_flat 8 = .ok (.iload_n 2, 1) := by decide +kernel
theorem dX12_flat_9 : decode cX12_flat 9 = .ok (.iconst 0, 1) := by decide +kernel
theorem dX12_flat_10 : decode cX12_flat 10 = .ok (.iconst 3, 1) := by decide +kernel
theorem dX12_flat_11 : decode cX12_flat 11 = .ok (.invokestatic 87, 3) := by decide +kernel
theorem dX12_flat_14 : decode cX12_flat 14 = .ok (.ifCond .ne 5, 3) := by decide +kernel
theorem dX12_flat_17 : decode cX12_flat 17 = .ok (.iconst (-1), 1) := by decide +kernel
theorem dX12_flat_18 : decode cX12_flat 18 = .ok (.ireturn, 1) := by decide +kernel
theorem dX12_flat_19 : decode cX12_flat 19 = .ok (.aload_n 0, 1) := by decide +kernel
theorem dX12_flat_20 : decode cX12_flat 20 = .ok (.invokevirtual 120, 3) := by decide +kernel
theorem dX12_flat_23 : decode cX12_flat 23 = .ok (.iload_n 2, 1) := by decide +kernel
theorem dX12_flat_24 : decode cX12_flat 24 = .ok (.ifCond .ne 12, 3) := by decide +kernel
theorem dX12_flat_27 : decode cX12_flat 27 = .ok (.aload_n 0, 1) := by decide +kernel
theorem dX12_flat_28 : decode cX12_flat 28 = .ok (.getfield 26, 3) := by decide +kernel
theorem dX12_flat_31 : decode cX12_flat 31 = .ok (.iload_n 1, 1) := by decide +kernel
theorem dX12_flat_32 : decode cX12_flat 32 = .ok (.iaload, 1) := by decide +kernel
theorem dX12_flat_33 : decode cX12_flat 33 = .ok (.goto 37, 3) := by decide +kernel
theorem dX12_flat_36 : decode cX12_flat 36 = .ok (.iload_n 2, 1) := by decide +kernel
theorem dX12_flat_37 : decode cX12_flat 37 = .ok (.iconst 1, 1) := by decide +kernel
theorem dX12_flat_38 : decode cX12_flat 38 = .ok (.if_icmp .ne 12, 3) := by decide +kernel
theorem dX12_flat_41 : decode cX12_flat 41 = .ok (.aload_n 0, 1) := by decide +kernel
theorem dX12_flat_42 : decode cX12_flat 42 = .ok (.getfield 29, 3) := by decide +kernel
theorem dX12_flat_45 : decode cX12_flat 45 = .ok (.iload_n 1, 1) := by decide +kernel
theorem dX12_flat_46 : decode cX12_flat 46 = .ok (.iaload, 1) := by decide +kernel
theorem dX12_flat_47 : decode cX12_flat 47 = .ok (.goto 23, 3) := by decide +kernel
theorem dX12_flat_50 : decode cX12_flat 50 = .ok (.iload_n 2, 1) := by decide +kernel
theorem dX12_flat_51 : decode cX12_flat 51 = .ok (.iconst 2, 1) := by decide +kernel
theorem dX12_flat_52 : decode cX12_flat 52 = .ok (.if_icmp .ne 12, 3) := by decide +kernel
theorem dX12_flat_55 : decode cX12_flat 55 = .ok (.aload_n 0, 1) := by decide +kernel
theorem dX12_flat_56 : decode cX12_flat 56 = .ok (.getfield 32, 3) := by decide +kernel
theorem dX12_flat_59 : decode cX12_flat 59 = .ok (.iload_n 1, 1) := by decide +kernel
theorem dX12_flat_60 : decode cX12_flat 60 = .ok (.iaload, 1) := by decide +kernel
theorem dX12_flat_61 : decode cX12_flat 61 = .ok (.goto 9, 3) := by decide +kernel
theorem dX12_flat_64 : decode cX12_flat 64 = .ok (.aload_n 0, 1) := by decide +kernel
theorem dX12_flat_65 : decode cX12_flat 65 = .ok (.getfield 35, 3) := by decide +kernel
theorem dX12_flat_68 : decode cX12_flat 68 = .ok (.iload_n 1, 1) := by decide +kernel
theorem dX12_flat_69 : decode cX12_flat 69 = .ok (.iaload, 1) := by decide +kernel
theorem dX12_flat_70 : decode cX12_flat 70 = .ok (.ireturn, 1) := by decide +kernel
theorem dX12_sideX_0 : decode cX12_sideX 0 = .ok (.iload_n 2, 1) := by decide +kernel
theorem dX12_sideX_1 : decode cX12_sideX 1 = .ok (.iconst 1, 1) := by decide +kernel
theorem dX12_sideX_2 : decode cX12_sideX 2 = .ok (.if_icmp .ne 19, 3) := by decide +kernel
theorem dX12_sideX_5 : decode cX12_sideX 5 = .ok (.aload_n 0, 1) := by decide +kernel
theorem dX12_sideX_6 : decode cX12_sideX 6 = .ok (.getfield 26, 3) := by decide +kernel
theorem dX12_sideX_9 : decode cX12_sideX 9 = .ok (.iload_n 1, 1) := by decide +kernel
theorem dX12_sideX_10 : decode cX12_sideX 10 = .ok (.iaload, 1) := by decide +kernel
theorem dX12_sideX_11 : decode cX12_sideX 11 = .ok (.aload_n 0, 1) := by decide +kernel
theorem dX12_sideX_12 : decode cX12_sideX 12 = .ok (.getfield 32, 3) := by decide +kernel
theorem dX12_sideX_15 : decode cX12_sideX 15 = .ok (.iload_n 1, 1) := by decide +kernel
theorem dX12_sideX_16 : decode cX12_sideX 16 = .ok (.iaload, 1) := by decide +kernel
theorem dX12_sideX_17 : decode cX12_sideX 17 = .ok (.iadd, 1) := by decide +kernel
theorem dX12_sideX_18 : decode cX12_sideX 18 = .ok (.goto 9, 3) := by decide +kernel
theorem dX12_sideX_21 : decode cX12_sideX 21 = .ok (.aload_n 0, 1) := by decide +kernel
theorem dX12_sideX_22 : decode cX12_sideX 22 = .ok (.getfield 26, 3) := by decide +kernel
theorem dX12_sideX_25 : decode cX12_sideX 25 = .ok (.iload_n 1, 1) := by decide +kernel
theorem dX12_sideX_26 : decode cX12_sideX 26 = .ok (.iaload, 1) := by decide +kernel
theorem dX12_sideX_27 : decode cX12_sideX 27 = .ok (.ireturn, 1) := by decide +kernel
theorem dX12_sideY_0 : decode cX12_sideY 0 = .ok (.iload_n 2, 1) := by decide +kernel
theorem dX12_sideY_1 : decode cX12_sideY 1 = .ok (.iconst 2, 1) := by decide +kernel
theorem dX12_sideY_2 : decode cX12_sideY 2 = .ok (.if_icmp .ne 19, 3) := by decide +kernel
theorem dX12_sideY_5 : decode cX12_sideY 5 = .ok (.aload_n 0, 1) := by decide +kernel
theorem dX12_sideY_6 : decode cX12_sideY 6 = .ok (.getfield 29, 3) := by decide +kernel
theorem dX12_sideY_9 : decode cX12_sideY 9 = .ok (.iload_n 1, 1) := by decide +kernel
theorem dX12_sideY_10 : decode cX12_sideY 10 = .ok (.iaload, 1) := by decide +kernel
theorem dX12_sideY_11 : decode cX12_sideY 11 = .ok (.aload_n 0, 1) := by decide +kernel
theorem dX12_sideY_12 : decode cX12_sideY 12 = .ok (.getfield 35, 3) := by decide +kernel
theorem dX12_sideY_15 : decode cX12_sideY 15 = .ok (.iload_n 1, 1) := by decide +kernel
theorem dX12_sideY_16 : decode cX12_sideY 16 = .ok (.iaload, 1) := by decide +kernel
theorem dX12_sideY_17 : decode cX12_sideY 17 = .ok (.iadd, 1) := by decide +kernel
theorem dX12_sideY_18 : decode cX12_sideY 18 = .ok (.goto 9, 3) := by decide +kernel
theorem dX12_sideY_21 : decode cX12_sideY 21 = .ok (.aload_n 0, 1) := by decide +kernel
theorem dX12_sideY_22 : decode cX12_sideY 22 = .ok (.getfield 29, 3) := by decide +kernel
theorem dX12_sideY_25 : decode cX12_sideY 25 = .ok (.iload_n 1, 1) := by decide +kernel
theorem dX12_sideY_26 : decode cX12_sideY 26 = .ok (.iaload, 1) := by decide +kernel
theorem dX12_sideY_27 : decode cX12_sideY 27 = .ok (.ireturn, 1) := by decide +kernel
theorem dX12_isOn_0 : decode cX12_isOn 0 = .ok (.iload_n 2, 1) := by decide +kernel
theorem dX12_isOn_1 : decode cX12_isOn 1 = .ok (.iconst 2, 1) := by decide +kernel
theorem dX12_isOn_2 : decode cX12_isOn 2 = .ok (.irem, 1) := by decide +kernel
theorem dX12_isOn_3 : decode cX12_isOn 3 = .ok (.ifCond .ne 7, 3) := by decide +kernel
theorem dX12_isOn_6 : decode cX12_isOn 6 = .ok (.iconst 1, 1) := by decide +kernel
theorem dX12_isOn_7 : decode cX12_isOn 7 = .ok (.goto 4, 3) := by decide +kernel
theorem dX12_isOn_10 : decode cX12_isOn 10 = .ok (.iconst 0, 1) := by decide +kernel
theorem dX12_isOn_11 : decode cX12_isOn 11 = .ok (.iload_n 3, 1) := by decide +kernel
theorem dX12_isOn_12 : decode cX12_isOn 12 = .ok (.if_icmp .eq 5, 3) := by decide +kernel
theorem dX12_isOn_15 : decode cX12_isOn 15 = .ok (.iconst 0, 1) := by decide +kernel
theorem dX12_isOn_16 : decode cX12_isOn 16 = .ok (.ireturn, 1) := by decide +kernel
theorem dX12_isOn_17 : decode cX12_isOn 17 = .ok (.iload_n 3, 1) := by decide +kernel
theorem dX12_isOn_18 : decode cX12_isOn 18 = .ok (.ifCond .eq 51, 3) := by decide +kernel
theorem dX12_isOn_21 : decode cX12_isOn 21 = .ok (.aload_n 0, 1) := by decide +kernel
theorem dX12_isOn_22 : decode cX12_isOn 22 = .ok (.iload_n 1, 1) := by decide +kernel
theorem dX12_isOn_23 : decode cX12_isOn 23 = .ok (.iload_n 2, 1) := by decide +kernel
theorem dX12_isOn_24 : decode cX12_isOn 24 = .ok (.invokevirtual 356, 3) := by decide +kernel
theorem dX12_isOn_27 : decode cX12_isOn 27 = .ok (.iload 5, 2) := by decide +kernel
theorem dX12_isOn_29 : decode cX12_isOn 29 = .ok (.if_icmp .ne 36, 3) := by decide +kernel
theorem dX12_isOn_32 : decode cX12_isOn 32 = .ok (.iload 4, 2) := by decide +kernel
theorem dX12_isOn_34 : decode cX12_isOn 34 = .ok (.aload_n 0, 1) := by decide +kernel
theorem dX12_isOn_35 : decode cX12_isOn 35 = .ok (.getfield 26, 3) := by decide +kernel
theorem dX12_isOn_38 : decode cX12_isOn 38 = .ok (.iload_n 1, 1) := by decide +kernel
theorem dX12_isOn_39 : decode cX12_isOn 39 = .ok (.iaload, 1) := by decide +kernel
theorem dX12_isOn_40 : decode cX12_isOn 40 = .ok (.if_icmp .lt 25, 3) := by decide +kernel
theorem dX12_isOn_43 : decode cX12_isOn 43 = .ok (.iload 4, 2) := by decide +kernel
theorem dX12_isOn_45 : decode cX12_isOn 45 = .ok (.aload_n 0, 1) := by decide +kernel
theorem dX12_isOn_46 : decode cX12_isOn 46 = .ok (.getfield 26, 3) := by decide +kernel
theorem dX12_isOn_49 : decode cX12_isOn 49 = .ok (.iload_n 1, 1) := by decide +kernel
theorem dX12_isOn_50 : decode cX12_isOn 50 = .ok (.iaload, 1) := by decide +kernel
theorem dX12_isOn_51 : decode cX12_isOn 51 = .ok (.aload_n 0, 1) := by decide +kernel
theorem dX12_isOn_52 : decode cX12_isOn 52 = .ok (.getfield 32, 3) := by decide +kernel
theorem dX12_isOn_55 : decode cX12_isOn 55 = .ok (.iload_n 1, 1) := by decide +kernel
theorem dX12_isOn_56 : decode cX12_isOn 56 = .ok (.iaload, 1) := by decide +kernel
theorem dX12_isOn_57 : decode cX12_isOn 57 = .ok (.iadd, 1) := by decide +kernel
theorem dX12_isOn_58 : decode cX12_isOn 58 = .ok (.if_icmp .ge 7, 3) := by decide +kernel
theorem dX12_isOn_61 : decode cX12_isOn 61 = .ok (.iconst 1, 1) := by decide +kernel
theorem dX12_isOn_62 : decode cX12_isOn 62 = .ok (.goto 52, 3) := by decide +kernel
theorem dX12_isOn_65 : decode cX12_isOn 65 = .ok (.iconst 0, 1) := by decide +kernel
theorem dX12_isOn_66 : decode cX12_isOn 66 = .ok (.goto 48, 3) := by decide +kernel
theorem dX12_isOn_69 : decode cX12_isOn 69 = .ok (.aload_n 0, 1) := by decide +kernel
theorem dX12_isOn_70 : decode cX12_isOn 70 = .ok (.iload_n 1, 1) := by decide +kernel
theorem dX12_isOn_71 : decode cX12_isOn 71 = .ok (.iload_n 2, 1) := by decide +kernel
theorem dX12_isOn_72 : decode cX12_isOn 72 = .ok (.invokevirtual 359, 3) := by decide +kernel
theorem dX12_isOn_75 : decode cX12_isOn 75 = .ok (.iload 4, 2) := by decide +kernel
theorem dX12_isOn_77 : decode cX12_isOn 77 = .ok (.if_icmp .ne 36, 3) := by decide +kernel
theorem dX12_isOn_80 : decode cX12_isOn 80 = .ok (.iload 5, 2) := by decide +kernel
theorem dX12_isOn_82 : decode cX12_isOn 82 = .ok (.aload_n 0, 1) := by decide +kernel
theorem dX12_isOn_83 : decode cX12_isOn 83 = .ok (.getfield 29, 3) := by decide +kernel
theorem dX12_isOn_86 : decode cX12_isOn 86 = .ok (.iload_n 1, 1) := by decide +kernel
theorem dX12_isOn_87 : decode cX12_isOn 87 = .ok (.iaload, 1) := by decide +kernel
theorem dX12_isOn_88 : decode cX12_isOn 88 = .ok (.if_icmp .lt 25, 3) := by decide +kernel
theorem dX12_isOn_91 : decode cX12_isOn 91 = .ok (.iload 5, 2) := by decide +kernel
theorem dX12_isOn_93 : decode cX12_isOn 93 = .ok (.aload_n 0, 1) := by decide +kernel
theorem dX12_isOn_94 : decode cX12_isOn 94 = .ok (.getfield 29, 3) := by decide +kernel
theorem dX12_isOn_97 : decode cX12_isOn 97 = .ok (.iload_n 1, 1) := by decide +kernel
theorem dX12_isOn_98 : decode cX12_isOn 98 = .ok (.iaload, 1) := by decide +kernel
theorem dX12_isOn_99 : decode cX12_isOn 99 = .ok (.aload_n 0, 1) := by decide +kernel
theorem dX12_isOn_100 : decode cX12_isOn 100 = .ok (.getfield 35, 3) := by decide +kernel
theorem dX12_isOn_103 : decode cX12_isOn 103 = .ok (.iload_n 1, 1) := by decide +kernel
theorem dX12_isOn_104 : decode cX12_isOn 104 = .ok (.iaload, 1) := by decide +kernel
theorem dX12_isOn_105 : decode cX12_isOn 105 = .ok (.iadd, 1) := by decide +kernel
theorem dX12_isOn_106 : decode cX12_isOn 106 = .ok (.if_icmp .ge 7, 3) := by decide +kernel
theorem dX12_isOn_109 : decode cX12_isOn 109 = .ok (.iconst 1, 1) := by decide +kernel
theorem dX12_isOn_110 : decode cX12_isOn 110 = .ok (.goto 4, 3) := by decide +kernel
theorem dX12_isOn_113 : decode cX12_isOn 113 = .ok (.iconst 0, 1) := by decide +kernel
theorem dX12_isOn_114 : decode cX12_isOn 114 = .ok (.ireturn, 1) := by decide +kernel
theorem dX12_isFold_0 : decode cX12_isFold 0 = .ok (.iconst 0, 1) := by decide +kernel
theorem dX12_isFold_1 : decode cX12_isFold 1 = .ok (.istore 4, 2) := by decide +kernel
theorem dX12_isFold_3 : decode cX12_isFold 3 = .ok (.iconst 1, 1) := by decide +kernel
theorem dX12_isFold_4 : decode cX12_isFold 4 = .ok (.istore 5, 2) := by decide +kernel
theorem dX12_isFold_6 : decode cX12_isFold 6 = .ok (.iload 5, 2) := by decide +kernel
theorem dX12_isFold_8 : decode cX12_isFold 8 = .ok (.aload_n 0, 1) := by decide +kernel
theorem dX12_isFold_9 : decode cX12_isFold 9 = .ok (.invokevirtual 83, 3) := by decide +kernel
theorem dX12_isFold_12 : decode cX12_isFold 12 = .ok (.if_icmp .ge 44, 3) := by decide +kernel
theorem dX12_isFold_15 : decode cX12_isFold 15 = .ok (.iload 4, 2) := by decide +kernel
theorem dX12_isFold_17 : decode cX12_isFold 17 = .ok (.ifCond .ne 26, 3) := by decide +kernel
theorem dX12_isFold_20 : decode cX12_isFold 20 = .ok (.aload_n 0, 1) := by decide +kernel
theorem dX12_isFold_21 : decode cX12_isFold 21 = .ok (.iload 5, 2) := by decide +kernel
theorem dX12_isFold_23 : decode cX12_isFold 23 = .ok (.aload_n 0, 1) := by decide +kernel
theorem dX12_isFold_24 : decode cX12_isFold 24 = .ok (.iload 5, 2) := by decide +kernel
theorem dX12_isFold_26 : decode cX12_isFold 26 = .ok (.iconst 1, 1) := by decide +kernel
theorem dX12_isFold_27 : decode cX12_isFold 27 = .ok (.invokevirtual 91, 3) := by decide +kernel
theorem dX12_isFold_30 : decode cX12_isFold 30 = .ok (.iconst 2, 1) := by decide +kernel
theorem dX12_isFold_31 : decode cX12_isFold 31 = .ok (.iadd, 1) := by decide +kernel
theorem dX12_isFold_32 : decode cX12_isFold 32 = .ok (.iconst 4, 1) := by decide +kernel
theorem dX12_isFold_33 : decode cX12_isFold 33 = .ok (.irem, 1) := by decide +kernel
theorem dX12_isFold_34 : decode cX12_isFold 34 = .ok (.iload_n 1, 1) := by decide +kernel
theorem dX12_isFold_35 : decode cX12_isFold 35 = .ok (.iload_n 2, 1) := by decide +kernel
theorem dX12_isFold_36 : decode cX12_isFold 36 = .ok (.iload_n 3, 1) := by decide +kernel
theorem dX12_isFold_37 : decode cX12_isFold 37 = .ok (.invokevirtual 362, 3) := by decide +kernel
theorem dX12_isFold_40 : decode cX12_isFold 40 = .ok (.ifCond .eq 7, 3) := by decide +kernel
theorem dX12_isFold_43 : decode cX12_isFold 43 = .ok (.iconst 1, 1) := by decide +kernel
theorem dX12_isFold_44 : decode cX12_isFold 44 = .ok (.goto 4, 3) := by decide +kernel
theorem dX12_isFold_47 : decode cX12_isFold 47 = .ok (.iconst 0, 1) := by decide +kernel
theorem dX12_isFold_48 : decode cX12_isFold 48 = .ok (.istore 4, 2) := by decide +kernel
theorem dX12_isFold_50 : decode cX12_isFold 50 = .ok (.iinc 5 1, 3) := by decide +kernel
theorem dX12_isFold_53 : decode cX12_isFold 53 = .ok (.goto (-47), 3) := by decide +kernel
theorem dX12_isFold_56 : decode cX12_isFold 56 = .ok (.iload 4, 2) := by decide +kernel
theorem dX12_isFold_58 : decode cX12_isFold 58 = .ok (.ireturn, 1) := by decide +kernel
theorem dX12_isCounted_0 : decode cX12_isCounted 0 = .ok (.iconst 0, 1) := by decide +kernel
theorem dX12_isCounted_1 : decode cX12_isCounted 1 = .ok (.istore 6, 2) := by decide +kernel
theorem dX12_isCounted_3 : decode cX12_isCounted 3 = .ok (.iconst 0, 1) := by decide +kernel
theorem dX12_isCounted_4 : decode cX12_isCounted 4 = .ok (.istore 7, 2) := by decide +kernel
theorem dX12_isCounted_6 : decode cX12_isCounted 6 = .ok (.iload 7, 2) := by decide +kernel
theorem dX12_isCounted_8 : decode cX12_isCounted 8 = .ok (.iload_n 1, 1) := by decide +kernel
theorem dX12_isCounted_9 : decode cX12_isCounted 9 = .ok (.if_icmp .gt 62, 3) := by decide +kernel
theorem dX12_isCounted_12 : decode cX12_isCounted 12 = .ok (.iconst 0, 1) := by decide +kernel
theorem dX12_isCounted_13 : decode cX12_isCounted 13 = .ok (.istore 8, 2) := by decide +kernel
theorem dX12_isCounted_15 : decode cX12_isCounted 15 = .ok (.iload 8, 2) := by decide +kernel
theorem dX12_isCounted_17 : decode cX12_isCounted 17 = .ok (.iload 7, 2) := by decide +kernel
theorem dX12_isCounted_19 : decode cX12_isCounted 19 = .ok (.iload_n 1, 1) := by decide +kernel
theorem dX12_isCounted_20 : decode cX12_isCounted 20 = .ok (.if_icmp .ge 7, 3) := by decide +kernel
theorem dX12_isCounted_23 : decode cX12_isCounted 23 = .ok (.iconst 4, 1) := by decide +kernel
theorem dX12_isCounted_24 : decode cX12_isCounted 24 = .ok (.goto 4, 3) := by decide +kernel
theorem dX12_isCounted_27 : decode cX12_isCounted 27 = .ok (.iload_n 2, 1) := by decide +kernel
theorem dX12_isCounted_28 : decode cX12_isCounted 28 = .ok (.if_icmp .ge 37, 3) := by decide +kernel
theorem dX12_isCounted_31 : decode cX12_isCounted 31 = .ok (.iload 6, 2) := by decide +kernel
theorem dX12_isCounted_33 : decode cX12_isCounted 33 = .ok (.ifCond .ne 19, 3) := by decide +kernel
theorem dX12_isCounted_36 : decode cX12_isCounted 36 = .ok (.aload_n 0, 1) := by decide +kernel
theorem dX12_isCounted_37 : decode cX12_isCounted 37 = .ok (.iload 7, 2) := by decide +kernel
theorem dX12_isCounted_39 : decode cX12_isCounted 39 = .ok (.iload 8, 2) := by decide +kernel
theorem dX12_isCounted_41 : decode cX12_isCounted 41 = .ok (.iload_n 3, 1) := by decide +kernel
theorem dX12_isCounted_42 : decode cX12_isCounted 42 = .ok (.iload 4, 2) := by decide +kernel
theorem dX12_isCounted_44 : decode cX12_isCounted 44 = .ok (.iload 5, 2) := by decide +kernel
theorem dX12_isCounted_46 : decode cX12_isCounted 46 = .ok (.invokevirtual 362, 3) := by decide +kernel
theorem dX12_isCounted_49 : decode cX12_isCounted 49 = .ok (.ifCond .eq 7, 3) := by decide +kernel
theorem dX12_isCounted_52 : decode cX12_isCounted 52 = .ok (.iconst 1, 1) := by decide +kernel
theorem dX12_isCounted_53 : decode cX12_isCounted 53 = .ok (.goto 4, 3) := by decide +kernel
theorem dX12_isCounted_56 : decode cX12_isCounted 56 = .ok (.iconst 0, 1) := by decide +kernel
theorem dX12_isCounted_57 : decode cX12_isCounted 57 = .ok (.istore 6, 2) := by decide +kernel
theorem dX12_isCounted_59 : decode cX12_isCounted 59 = .ok (.iinc 8 1, 3) := by decide +kernel
theorem dX12_isCounted_62 : decode cX12_isCounted 62 = .ok (.goto (-47), 3) := by decide +kernel
theorem dX12_isCounted_65 : decode cX12_isCounted 65 = .ok (.iinc 7 1, 3) := by decide +kernel
theorem dX12_isCounted_68 : decode cX12_isCounted 68 = .ok (.goto (-62), 3) := by decide +kernel
theorem dX12_isCounted_71 : decode cX12_isCounted 71 = .ok (.iload 6, 2) := by decide +kernel
theorem dX12_isCounted_73 : decode cX12_isCounted 73 = .ok (.ireturn, 1) := by decide +kernel
theorem dX12_cutLength_0 : decode cX12_cutLength 0 = .ok (.aload_n 0, 1) := by decide +kernel
theorem dX12_cutLength_1 : decode cX12_cutLength 1 = .ok (.invokevirtual 120, 3) := by decide +kernel
theorem dX12_cutLength_4 : decode cX12_cutLength 4 = .ok (.iconst 0, 1) := by decide +kernel
theorem dX12_cutLength_5 : decode cX12_cutLength 5 = .ok (.istore_n 1, 1) := by decide +kernel
theorem dX12_cutLength_6 : decode cX12_cutLength 6 = .ok (.iconst 0, 1) := by decide +kernel
theorem dX12_cutLength_7 : decode cX12_cutLength 7 = .ok (.istore_n 2, 1) := by decide +kernel
theorem dX12_cutLength_8 : decode cX12_cutLength 8 = .ok (.iload_n 2, 1) := by decide +kernel
theorem dX12_cutLength_9 : decode cX12_cutLength 9 = .ok (.aload_n 0, 1) := by decide +kernel
theorem dX12_cutLength_10 : decode cX12_cutLength 10 = .ok (.invokevirtual 83, 3) := by decide +kernel
theorem dX12_cutLength_13 : decode cX12_cutLength 13 = .ok (.if_icmp .ge 131, 3) := by decide +kernel
theorem dX12_cutLength_16 : decode cX12_cutLength 16 = .ok (.iconst 0, 1) := by decide +kernel
theorem dX12_cutLength_17 : decode cX12_cutLength 17 = .ok (.istore_n 3, 1) := by decide +kernel
theorem dX12_cutLength_18 : decode cX12_cutLength 18 = .ok (.iload_n 3, 1) := by decide +kernel
theorem dX12_cutLength_19 : decode cX12_cutLength 19 = .ok (.iconst 4, 1) := by decide +kernel
theorem dX12_cutLength_20 : decode cX12_cutLength 20 = .ok (.if_icmp .ge 118, 3) := by decide +kernel
theorem dX12_cutLength_23 : decode cX12_cutLength 23 = .ok (.iload_n 3, 1) := by decide +kernel
theorem dX12_cutLength_24 : decode cX12_cutLength 24 = .ok (.iconst 2, 1) := by decide +kernel
theorem dX12_cutLength_25 : decode cX12_cutLength 25 = .ok (.irem, 1) := by decide +kernel
theorem dX12_cutLength_26 : decode cX12_cutLength 26 = .ok (.ifCond .ne 7, 3) := by decide +kernel
theorem dX12_cutLength_29 : decode cX12_cutLength 29 = .ok (.iconst 1, 1) := by decide +kernel
theorem dX12_cutLength_30 : decode cX12_cutLength 30 = .ok (.goto 4, 3) := by decide +kernel
theorem dX12_cutLength_33 : decode cX12_cutLength 33 = .ok (.iconst 0, 1) := by decide +kernel
theorem dX12_cutLength_34 : decode cX12_cutLength 34 = .ok (.istore 4, 2) := by decide +kernel
theorem dX12_cutLength_36 : decode cX12_cutLength 36 = .ok (.iconst 0, 1) := by decide +kernel
theorem dX12_cutLength_37 : decode cX12_cutLength 37 = .ok (.istore 5, 2) := by decide +kernel
theorem dX12_cutLength_39 : decode cX12_cutLength 39 = .ok (.iload 5, 2) := by decide +kernel
theorem dX12_cutLength_41 : decode cX12_cutLength 41 = .ok (.aload_n 0, 1) := by decide +kernel
theorem dX12_cutLength_42 : decode cX12_cutLength 42 = .ok (.iload_n 2, 1) := by decide +kernel
theorem dX12_cutLength_43 : decode cX12_cutLength 43 = .ok (.iload_n 3, 1) := by decide +kernel
theorem dX12_cutLength_44 : decode cX12_cutLength 44 = .ok (.invokevirtual 123, 3) := by decide +kernel
theorem dX12_cutLength_47 : decode cX12_cutLength 47 = .ok (.if_icmp .ge 85, 3) := by decide +kernel
theorem dX12_cutLength_50 : decode cX12_cutLength 50 = .ok (.aload_n 0, 1) := by decide +kernel
theorem dX12_cutLength_51 : decode cX12_cutLength 51 = .ok (.iload_n 2, 1) := by decide +kernel
theorem dX12_cutLength_52 : decode cX12_cutLength 52 = .ok (.iload_n 3, 1) := by decide +kernel
theorem dX12_cutLength_53 : decode cX12_cutLength 53 = .ok (.invokevirtual 359, 3) := by decide +kernel
theorem dX12_cutLength_56 : decode cX12_cutLength 56 = .ok (.iload 4, 2) := by decide +kernel
theorem dX12_cutLength_58 : decode cX12_cutLength 58 = .ok (.ifCond .eq 8, 3) := by decide +kernel
theorem dX12_cutLength_61 : decode cX12_cutLength 61 = .ok (.iload 5, 2) := by decide +kernel
theorem dX12_cutLength_63 : decode cX12_cutLength 63 = .ok (.goto 4, 3) := by decide +kernel
theorem dX12_cutLength_66 : decode cX12_cutLength 66 = .ok (.iconst 0, 1) := by decide +kernel
theorem dX12_cutLength_67 : decode cX12_cutLength 67 = .ok (.iadd, 1) := by decide +kernel
theorem dX12_cutLength_68 : decode cX12_cutLength 68 = .ok (.istore 6, 2) := by decide +kernel
theorem dX12_cutLength_70 : decode cX12_cutLength 70 = .ok (.aload_n 0, 1) := by decide +kernel
theorem dX12_cutLength_71 : decode cX12_cutLength 71 = .ok (.iload_n 2, 1) := by decide +kernel
theorem dX12_cutLength_72 : decode cX12_cutLength 72 = .ok (.iload_n 3, 1) := by decide +kernel
theorem dX12_cutLength_73 : decode cX12_cutLength 73 = .ok (.invokevirtual 356, 3) := by decide +kernel
theorem dX12_cutLength_76 : decode cX12_cutLength 76 = .ok (.iload 4, 2) := by decide +kernel
theorem dX12_cutLength_78 : decode cX12_cutLength 78 = .ok (.ifCond .eq 7, 3) := by decide +kernel
theorem dX12_cutLength_81 : decode cX12_cutLength 81 = .ok (.iconst 0, 1) := by decide +kernel
theorem dX12_cutLength_82 : decode cX12_cutLength 82 = .ok (.goto 5, 3) := by decide +kernel
theorem dX12_cutLength_85 : decode cX12_cutLength 85 = .ok (.iload 5, 2) := by decide +kernel
theorem dX12_cutLength_87 : decode cX12_cutLength 87 = .ok (.iadd, 1) := by decide +kernel
theorem dX12_cutLength_88 : decode cX12_cutLength 88 = .ok (.istore 7, 2) := by decide +kernel
theorem dX12_cutLength_90 : decode cX12_cutLength 90 = .ok (.iload_n 1, 1) := by decide +kernel
theorem dX12_cutLength_91 : decode cX12_cutLength 91 = .ok (.aload_n 0, 1) := by decide +kernel
theorem dX12_cutLength_92 : decode cX12_cutLength 92 = .ok (.iload 4, 2) := by decide +kernel
theorem dX12_cutLength_94 : decode cX12_cutLength 94 = .ok (.iload 6, 2) := by decide +kernel
theorem dX12_cutLength_96 : decode cX12_cutLength 96 = .ok (.iload 7, 2) := by decide +kernel
theorem dX12_cutLength_98 : decode cX12_cutLength 98 = .ok (.invokevirtual 366, 3) := by decide +kernel
theorem dX12_cutLength_101 : decode cX12_cutLength 101 = .ok (.ifCond .ne 18, 3) := by decide +kernel
theorem dX12_cutLength_104 : decode cX12_cutLength 104 = .ok (.aload_n 0, 1) := by decide +kernel
theorem dX12_cutLength_105 : decode cX12_cutLength 105 = .ok (.iload_n 2, 1) := by decide +kernel
theorem dX12_cutLength_106 : decode cX12_cutLength 106 = .ok (.iload_n 3, 1) := by decide +kernel
theorem dX12_cutLength_107 : decode cX12_cutLength 107 = .ok (.iload 4, 2) := by decide +kernel
theorem dX12_cutLength_109 : decode cX12_cutLength 109 = .ok (.iload 6, 2) := by decide +kernel
theorem dX12_cutLength_111 : decode cX12_cutLength 111 = .ok (.iload 7, 2) := by decide +kernel
theorem dX12_cutLength_113 : decode cX12_cutLength 113 = .ok (.invokevirtual 370, 3) := by decide +kernel
theorem dX12_cutLength_116 : decode cX12_cutLength 116 = .ok (.ifCond .eq 7, 3) := by decide +kernel
theorem dX12_cutLength_119 : decode cX12_cutLength 119 = .ok (.iconst 0, 1) := by decide +kernel
theorem dX12_cutLength_120 : decode cX12_cutLength 120 = .ok (.goto 4, 3) := by decide +kernel
theorem dX12_cutLength_123 : decode cX12_cutLength 123 = .ok (.iconst 1, 1) := by decide +kernel
theorem dX12_cutLength_124 : decode cX12_cutLength 124 = .ok (.iadd, 1) := by decide +kernel
theorem dX12_cutLength_125 : decode cX12_cutLength 125 = .ok (.istore_n 1, 1) := by decide +kernel
theorem dX12_cutLength_126 : decode cX12_cutLength 126 = .ok (.iinc 5 1, 3) := by decide +kernel
theorem dX12_cutLength_129 : decode cX12_cutLength 129 = .ok (.goto (-90), 3) := by decide +kernel
theorem dX12_cutLength_132 : decode cX12_cutLength 132 = .ok (.iinc 3 1, 3) := by decide +kernel
theorem dX12_cutLength_135 : decode cX12_cutLength 135 = .ok (.goto (-117), 3) := by decide +kernel
theorem dX12_cutLength_138 : decode cX12_cutLength 138 = .ok (.iinc 2 1, 3) := by decide +kernel
theorem dX12_cutLength_141 : decode cX12_cutLength 141 = .ok (.goto (-133), 3) := by decide +kernel
theorem dX12_cutLength_144 : decode cX12_cutLength 144 = .ok (.iload_n 1, 1) := by decide +kernel
theorem dX12_cutLength_145 : decode cX12_cutLength 145 = .ok (.ireturn, 1) := by decide +kernel
theorem dX12_creaseLength_0 : decode cX12_creaseLength 0 = .ok (.iconst 0, 1) := by decide +kernel
theorem dX12_creaseLength_1 : decode cX12_creaseLength 1 = .ok (.istore_n 1, 1) := by decide +kernel
theorem dX12_creaseLength_2 : decode cX12_creaseLength 2 = .ok (.iconst 1, 1) := by decide +kernel
theorem dX12_creaseLength_3 : decode cX12_creaseLength 3 = .ok (.istore_n 2, 1) := by decide +kernel
theorem dX12_creaseLength_4 : decode cX12_creaseLength 4 = .ok (.iload_n 2, 1) := by decide +kernel
theorem dX12_creaseLength_5 : decode cX12_creaseLength 5 = .ok (.aload_n 0, 1) := by decide +kernel
theorem dX12_creaseLength_6 : decode cX12_creaseLength 6 = .ok (.invokevirtual 83, 3) := by decide +kernel
theorem dX12_creaseLength_9 : decode cX12_creaseLength 9 = .ok (.if_icmp .ge 31, 3) := by decide +kernel
theorem dX12_creaseLength_12 : decode cX12_creaseLength 12 = .ok (.iload_n 1, 1) := by decide +kernel
theorem dX12_creaseLength_13 : decode cX12_creaseLength 13 = .ok (.aload_n 0, 1) := by decide +kernel
theorem dX12_creaseLength_14 : decode cX12_creaseLength 14 = .ok (.iload_n 2, 1) := by decide +kernel
theorem dX12_creaseLength_15 : decode cX12_creaseLength 15 = .ok (.iconst 5, 1) := by decide +kernel
theorem dX12_creaseLength_16 : decode cX12_creaseLength 16 = .ok (.invokevirtual 91, 3) := by decide +kernel
theorem dX12_creaseLength_19 : decode cX12_creaseLength 19 = .ok (.ifCond .eq 12, 3) := by decide +kernel
theorem dX12_creaseLength_22 : decode cX12_creaseLength 22 = .ok (.aload_n 0, 1) := by decide +kernel
theorem dX12_creaseLength_23 : decode cX12_creaseLength 23 = .ok (.iload_n 2, 1) := by decide +kernel
theorem dX12_creaseLength_24 : decode cX12_creaseLength 24 = .ok (.iconst 3, 1) := by decide +kernel
theorem dX12_creaseLength_25 : decode cX12_creaseLength 25 = .ok (.invokevirtual 91, 3) := by decide +kernel
theorem dX12_creaseLength_28 : decode cX12_creaseLength 28 = .ok (.goto 4, 3) := by decide +kernel
theorem dX12_creaseLength_31 : decode cX12_creaseLength 31 = .ok (.iconst 0, 1) := by decide +kernel
theorem dX12_creaseLength_32 : decode cX12_creaseLength 32 = .ok (.iadd, 1) := by decide +kernel
theorem dX12_creaseLength_33 : decode cX12_creaseLength 33 = .ok (.istore_n 1, 1) := by decide +kernel
theorem dX12_creaseLength_34 : decode cX12_creaseLength 34 = .ok (.iinc 2 1, 3) := by decide +kernel
theorem dX12_creaseLength_37 : decode cX12_creaseLength 37 = .ok (.goto (-33), 3) := by decide +kernel
theorem dX12_creaseLength_40 : decode cX12_creaseLength 40 = .ok (.iload_n 1, 1) := by decide +kernel
theorem dX12_creaseLength_41 : decode cX12_creaseLength 41 = .ok (.ireturn, 1) := by decide +kernel
theorem dX12_apart_0 : decode cX12_apart 0 = .ok (.iload_n 0, 1) := by decide +kernel
theorem dX12_apart_1 : decode cX12_apart 1 = .ok (.iload_n 2, 1) := by decide +kernel
theorem dX12_apart_2 : decode cX12_apart 2 = .ok (.if_icmp .gt 9, 3) := by decide +kernel
theorem dX12_apart_5 : decode cX12_apart 5 = .ok (.iload_n 2, 1) := by decide +kernel
theorem dX12_apart_6 : decode cX12_apart 6 = .ok (.iload_n 1, 1) := by decide +kernel
theorem dX12_apart_7 : decode cX12_apart 7 = .ok (.isub, 1) := by decide +kernel
theorem dX12_apart_8 : decode cX12_apart 8 = .ok (.goto 6, 3) := by decide +kernel
theorem dX12_apart_11 : decode cX12_apart 11 = .ok (.iload_n 0, 1) := by decide +kernel
theorem dX12_apart_12 : decode cX12_apart 12 = .ok (.iload_n 3, 1) := by decide +kernel
theorem dX12_apart_13 : decode cX12_apart 13 = .ok (.isub, 1) := by decide +kernel
theorem dX12_apart_14 : decode cX12_apart 14 = .ok (.ireturn, 1) := by decide +kernel
theorem dX12_isNear_0 : decode cX12_isNear 0 = .ok (.aload_n 0, 1) := by decide +kernel
theorem dX12_isNear_1 : decode cX12_isNear 1 = .ok (.getfield 26, 3) := by decide +kernel
theorem dX12_isNear_4 : decode cX12_isNear 4 = .ok (.iload_n 1, 1) := by decide +kernel
theorem dX12_isNear_5 : decode cX12_isNear 5 = .ok (.iaload, 1) := by decide +kernel
theorem dX12_isNear_6 : decode cX12_isNear 6 = .ok (.aload_n 0, 1) := by decide +kernel
theorem dX12_isNear_7 : decode cX12_isNear 7 = .ok (.getfield 26, 3) := by decide +kernel
theorem dX12_isNear_10 : decode cX12_isNear 10 = .ok (.iload_n 1, 1) := by decide +kernel
theorem dX12_isNear_11 : decode cX12_isNear 11 = .ok (.iaload, 1) := by decide +kernel
theorem dX12_isNear_12 : decode cX12_isNear 12 = .ok (.aload_n 0, 1) := by decide +kernel
theorem dX12_isNear_13 : decode cX12_isNear 13 = .ok (.getfield 32, 3) := by decide +kernel
theorem dX12_isNear_16 : decode cX12_isNear 16 = .ok (.iload_n 1, 1) := by decide +kernel
theorem dX12_isNear_17 : decode cX12_isNear 17 = .ok (.iaload, 1) := by decide +kernel
theorem dX12_isNear_18 : decode cX12_isNear 18 = .ok (.iadd, 1) := by decide +kernel
theorem dX12_isNear_19 : decode cX12_isNear 19 = .ok (.iload_n 3, 1) := by decide +kernel
theorem dX12_isNear_20 : decode cX12_isNear 20 = .ok (.iload_n 3, 1) := by decide +kernel
theorem dX12_isNear_21 : decode cX12_isNear 21 = .ok (.aload_n 0, 1) := by decide +kernel
theorem dX12_isNear_22 : decode cX12_isNear 22 = .ok (.getfield 32, 3) := by decide +kernel
theorem dX12_isNear_25 : decode cX12_isNear 25 = .ok (.iload_n 2, 1) := by decide +kernel
theorem dX12_isNear_26 : decode cX12_isNear 26 = .ok (.iaload, 1) := by decide +kernel
theorem dX12_isNear_27 : decode cX12_isNear 27 = .ok (.iadd, 1) := by decide +kernel
theorem dX12_isNear_28 : decode cX12_isNear 28 = .ok (.invokestatic 373, 3) := by decide +kernel
theorem dX12_isNear_31 : decode cX12_isNear 31 = .ok (.iload 5, 2) := by decide +kernel
theorem dX12_isNear_33 : decode cX12_isNear 33 = .ok (.if_icmp .ge 45, 3) := by decide +kernel
theorem dX12_isNear_36 : decode cX12_isNear 36 = .ok (.aload_n 0, 1) := by decide +kernel
theorem dX12_isNear_37 : decode cX12_isNear 37 = .ok (.getfield 29, 3) := by decide +kernel
theorem dX12_isNear_40 : decode cX12_isNear 40 = .ok (.iload_n 1, 1) := by decide +kernel
theorem dX12_isNear_41 : decode cX12_isNear 41 = .ok (.iaload, 1) := by decide +kernel
theorem dX12_isNear_42 : decode cX12_isNear 42 = .ok (.aload_n 0, 1) := by decide +kernel
theorem dX12_isNear_43 : decode cX12_isNear 43 = .ok (.getfield 29, 3) := by decide +kernel
theorem dX12_isNear_46 : decode cX12_isNear 46 = .ok (.iload_n 1, 1) := by decide +kernel
theorem dX12_isNear_47 : decode cX12_isNear 47 = .ok (.iaload, 1) := by decide +kernel
theorem dX12_isNear_48 : decode cX12_isNear 48 = .ok (.aload_n 0, 1) := by decide +kernel
theorem dX12_isNear_49 : decode cX12_isNear 49 = .ok (.getfield 35, 3) := by decide +kernel
theorem dX12_isNear_52 : decode cX12_isNear 52 = .ok (.iload_n 1, 1) := by decide +kernel
theorem dX12_isNear_53 : decode cX12_isNear 53 = .ok (.iaload, 1) := by decide +kernel
theorem dX12_isNear_54 : decode cX12_isNear 54 = .ok (.iadd, 1) := by decide +kernel
theorem dX12_isNear_55 : decode cX12_isNear 55 = .ok (.iload 4, 2) := by decide +kernel
theorem dX12_isNear_57 : decode cX12_isNear 57 = .ok (.iload 4, 2) := by decide +kernel
theorem dX12_isNear_59 : decode cX12_isNear 59 = .ok (.aload_n 0, 1) := by decide +kernel
theorem dX12_isNear_60 : decode cX12_isNear 60 = .ok (.getfield 35, 3) := by decide +kernel
theorem dX12_isNear_63 : decode cX12_isNear 63 = .ok (.iload_n 2, 1) := by decide +kernel
theorem dX12_isNear_64 : decode cX12_isNear 64 = .ok (.iaload, 1) := by decide +kernel
theorem dX12_isNear_65 : decode cX12_isNear 65 = .ok (.iadd, 1) := by decide +kernel
theorem dX12_isNear_66 : decode cX12_isNear 66 = .ok (.invokestatic 373, 3) := by decide +kernel
theorem dX12_isNear_69 : decode cX12_isNear 69 = .ok (.iload 5, 2) := by decide +kernel
theorem dX12_isNear_71 : decode cX12_isNear 71 = .ok (.if_icmp .ge 7, 3) := by decide +kernel
theorem dX12_isNear_74 : decode cX12_isNear 74 = .ok (.iconst 1, 1) := by decide +kernel
theorem dX12_isNear_75 : decode cX12_isNear 75 = .ok (.goto 4, 3) := by decide +kernel
theorem dX12_isNear_78 : decode cX12_isNear 78 = .ok (.iconst 0, 1) := by decide +kernel
theorem dX12_isNear_79 : decode cX12_isNear 79 = .ok (.ireturn, 1) := by decide +kernel
theorem dX12_leastOf_0 : decode cX12_leastOf 0 = .ok (.sipush 300, 3) := by decide +kernel
theorem dX12_leastOf_3 : decode cX12_leastOf 3 = .ok (.istore_n 2, 1) := by decide +kernel
theorem dX12_leastOf_4 : decode cX12_leastOf 4 = .ok (.iconst 0, 1) := by decide +kernel
theorem dX12_leastOf_5 : decode cX12_leastOf 5 = .ok (.istore_n 3, 1) := by decide +kernel
theorem dX12_leastOf_6 : decode cX12_leastOf 6 = .ok (.iload_n 3, 1) := by decide +kernel
theorem dX12_leastOf_7 : decode cX12_leastOf 7 = .ok (.aload_n 0, 1) := by decide +kernel
theorem dX12_leastOf_8 : decode cX12_leastOf 8 = .ok (.invokevirtual 83, 3) := by decide +kernel
theorem dX12_leastOf_11 : decode cX12_leastOf 11 = .ok (.if_icmp .ge 33, 3) := by decide +kernel
theorem dX12_leastOf_14 : decode cX12_leastOf 14 = .ok (.iload_n 2, 1) := by decide +kernel
theorem dX12_leastOf_15 : decode cX12_leastOf 15 = .ok (.iload_n 1, 1) := by decide +kernel
theorem dX12_leastOf_16 : decode cX12_leastOf 16 = .ok (.ifCond .ne 12, 3) := by decide +kernel
theorem dX12_leastOf_19 : decode cX12_leastOf 19 = .ok (.aload_n 0, 1) := by decide +kernel
theorem dX12_leastOf_20 : decode cX12_leastOf 20 = .ok (.getfield 26, 3) := by decide +kernel
theorem dX12_leastOf_23 : decode cX12_leastOf 23 = .ok (.iload_n 3, 1) := by decide +kernel
theorem dX12_leastOf_24 : decode cX12_leastOf 24 = .ok (.iaload, 1) := by decide +kernel
theorem dX12_leastOf_25 : decode cX12_leastOf 25 = .ok (.goto 9, 3) := by decide +kernel
theorem dX12_leastOf_28 : decode cX12_leastOf 28 = .ok (.aload_n 0, 1) := by decide +kernel
theorem dX12_leastOf_29 : decode cX12_leastOf 29 = .ok (.getfield 29, 3) := by decide +kernel
theorem dX12_leastOf_32 : decode cX12_leastOf 32 = .ok (.iload_n 3, 1) := by decide +kernel
theorem dX12_leastOf_33 : decode cX12_leastOf 33 = .ok (.iaload, 1) := by decide +kernel
theorem dX12_leastOf_34 : decode cX12_leastOf 34 = .ok (.invokestatic 110, 3) := by decide +kernel
theorem dX12_leastOf_37 : decode cX12_leastOf 37 = .ok (.istore_n 2, 1) := by decide +kernel
theorem dX12_leastOf_38 : decode cX12_leastOf 38 = .ok (.iinc 3 1, 3) := by decide +kernel
theorem dX12_leastOf_41 : decode cX12_leastOf 41 = .ok (.goto (-35), 3) := by decide +kernel
theorem dX12_leastOf_44 : decode cX12_leastOf 44 = .ok (.iload_n 2, 1) := by decide +kernel
theorem dX12_leastOf_45 : decode cX12_leastOf 45 = .ok (.ireturn, 1) := by decide +kernel
theorem dX12_greatestOf_0 : decode cX12_greatestOf 0 = .ok (.iconst 0, 1) := by decide +kernel
theorem dX12_greatestOf_1 : decode cX12_greatestOf 1 = .ok (.istore_n 2, 1) := by decide +kernel
theorem dX12_greatestOf_2 : decode cX12_greatestOf 2 = .ok (.iconst 0, 1) := by decide +kernel
theorem dX12_greatestOf_3 : decode cX12_greatestOf 3 = .ok (.istore_n 3, 1) := by decide +kernel
theorem dX12_greatestOf_4 : decode cX12_greatestOf 4 = .ok (.iload_n 3, 1) := by decide +kernel
theorem dX12_greatestOf_5 : decode cX12_greatestOf 5 = .ok (.aload_n 0, 1) := by decide +kernel
theorem dX12_greatestOf_6 : decode cX12_greatestOf 6 = .ok (.invokevirtual 83, 3) := by decide +kernel
theorem dX12_greatestOf_9 : decode cX12_greatestOf 9 = .ok (.if_icmp .ge 47, 3) := by decide +kernel
theorem dX12_greatestOf_12 : decode cX12_greatestOf 12 = .ok (.iload_n 2, 1) := by decide +kernel
theorem dX12_greatestOf_13 : decode cX12_greatestOf 13 = .ok (.iload_n 1, 1) := by decide +kernel
theorem dX12_greatestOf_14 : decode cX12_greatestOf 14 = .ok (.ifCond .ne 19, 3) := by decide +kernel
theorem dX12_greatestOf_17 : decode cX12_greatestOf 17 = .ok (.aload_n 0, 1) := by decide +kernel
theorem dX12_greatestOf_18 : decode cX12_greatestOf 18 = .ok (.getfield 26, 3) := by decide +kernel
theorem dX12_greatestOf_21 : decode cX12_greatestOf 21 = .ok (.iload_n 3, 1) := by decide +kernel
theorem dX12_greatestOf_22 : decode cX12_greatestOf 22 = .ok (.iaload, 1) := by decide +kernel
theorem dX12_greatestOf_23 : decode cX12_greatestOf 23 = .ok (.aload_n 0, 1) := by decide +kernel
theorem dX12_greatestOf_24 : decode cX12_greatestOf 24 = .ok (.getfield 32, 3) := by decide +kernel
theorem dX12_greatestOf_27 : decode cX12_greatestOf 27 = .ok (.iload_n 3, 1) := by decide +kernel
theorem dX12_greatestOf_28 : decode cX12_greatestOf 28 = .ok (.iaload, 1) := by decide +kernel
theorem dX12_greatestOf_29 : decode cX12_greatestOf 29 = .ok (.iadd, 1) := by decide +kernel
theorem dX12_greatestOf_30 : decode cX12_greatestOf 30 = .ok (.goto 16, 3) := by decide +kernel
theorem dX12_greatestOf_33 : decode cX12_greatestOf 33 = .ok (.aload_n 0, 1) := by decide +kernel
theorem dX12_greatestOf_34 : decode cX12_greatestOf 34 = .ok (.getfield 29, 3) := by decide +kernel
theorem dX12_greatestOf_37 : decode cX12_greatestOf 37 = .ok (.iload_n 3, 1) := by decide +kernel
theorem dX12_greatestOf_38 : decode cX12_greatestOf 38 = .ok (.iaload, 1) := by decide +kernel
theorem dX12_greatestOf_39 : decode cX12_greatestOf 39 = .ok (.aload_n 0, 1) := by decide +kernel
theorem dX12_greatestOf_40 : decode cX12_greatestOf 40 = .ok (.getfield 35, 3) := by decide +kernel
theorem dX12_greatestOf_43 : decode cX12_greatestOf 43 = .ok (.iload_n 3, 1) := by decide +kernel
theorem dX12_greatestOf_44 : decode cX12_greatestOf 44 = .ok (.iaload, 1) := by decide +kernel
theorem dX12_greatestOf_45 : decode cX12_greatestOf 45 = .ok (.iadd, 1) := by decide +kernel
theorem dX12_greatestOf_46 : decode cX12_greatestOf 46 = .ok (.invokestatic 113, 3) := by decide +kernel
theorem dX12_greatestOf_49 : decode cX12_greatestOf 49 = .ok (.istore_n 2, 1) := by decide +kernel
theorem dX12_greatestOf_50 : decode cX12_greatestOf 50 = .ok (.iinc 3 1, 3) := by decide +kernel
theorem dX12_greatestOf_53 : decode cX12_greatestOf 53 = .ok (.goto (-49), 3) := by decide +kernel
theorem dX12_greatestOf_56 : decode cX12_greatestOf 56 = .ok (.iload_n 2, 1) := by decide +kernel
theorem dX12_greatestOf_57 : decode cX12_greatestOf 57 = .ok (.ireturn, 1) := by decide +kernel
theorem dX12_isFree_0 : decode cX12_isFree 0 = .ok (.iconst 1, 1) := by decide +kernel
theorem dX12_isFree_1 : decode cX12_isFree 1 = .ok (.istore 5, 2) := by decide +kernel
theorem dX12_isFree_3 : decode cX12_isFree 3 = .ok (.iconst 0, 1) := by decide +kernel
theorem dX12_isFree_4 : decode cX12_isFree 4 = .ok (.istore 6, 2) := by decide +kernel
theorem dX12_isFree_6 : decode cX12_isFree 6 = .ok (.iload 6, 2) := by decide +kernel
theorem dX12_isFree_8 : decode cX12_isFree 8 = .ok (.aload_n 0, 1) := by decide +kernel
theorem dX12_isFree_9 : decode cX12_isFree 9 = .ok (.invokevirtual 83, 3) := by decide +kernel
theorem dX12_isFree_12 : decode cX12_isFree 12 = .ok (.if_icmp .ge 166, 3) := by decide +kernel
theorem dX12_isFree_15 : decode cX12_isFree 15 = .ok (.iconst 0, 1) := by decide +kernel
theorem dX12_isFree_16 : decode cX12_isFree 16 = .ok (.istore 7, 2) := by decide +kernel
theorem dX12_isFree_18 : decode cX12_isFree 18 = .ok (.iload 7, 2) := by decide +kernel
theorem dX12_isFree_20 : decode cX12_isFree 20 = .ok (.aload_n 0, 1) := by decide +kernel
theorem dX12_isFree_21 : decode cX12_isFree 21 = .ok (.invokevirtual 83, 3) := by decide +kernel
theorem dX12_isFree_24 : decode cX12_isFree 24 = .ok (.if_icmp .ge 148, 3) := by decide +kernel
theorem dX12_isFree_27 : decode cX12_isFree 27 = .ok (.iload_n 3, 1) := by decide +kernel
theorem dX12_isFree_28 : decode cX12_isFree 28 = .ok (.ifCond .eq 33, 3) := by decide +kernel
theorem dX12_isFree_31 : decode cX12_isFree 31 = .ok (.aload_n 0, 1) := by decide +kernel
theorem dX12_isFree_32 : decode cX12_isFree 32 = .ok (.iconst 0, 1) := by decide +kernel
theorem dX12_isFree_33 : decode cX12_isFree 33 = .ok (.invokevirtual 376, 3) := by decide +kernel
theorem dX12_isFree_36 : decode cX12_isFree 36 = .ok (.aload_n 0, 1) := by decide +kernel
theorem dX12_isFree_37 : decode cX12_isFree 37 = .ok (.iconst 0, 1) := by decide +kernel
theorem dX12_isFree_38 : decode cX12_isFree 38 = .ok (.invokevirtual 379, 3) := by decide +kernel
theorem dX12_isFree_41 : decode cX12_isFree 41 = .ok (.iadd, 1) := by decide +kernel
theorem dX12_isFree_42 : decode cX12_isFree 42 = .ok (.aload_n 0, 1) := by decide +kernel
theorem dX12_isFree_43 : decode cX12_isFree 43 = .ok (.getfield 26, 3) := by decide +kernel
theorem dX12_isFree_46 : decode cX12_isFree 46 = .ok (.iload 7, 2) := by decide +kernel
theorem dX12_isFree_48 : decode cX12_isFree 48 = .ok (.iaload, 1) := by decide +kernel
theorem dX12_isFree_49 : decode cX12_isFree 49 = .ok (.isub, 1) := by decide +kernel
theorem dX12_isFree_50 : decode cX12_isFree 50 = .ok (.aload_n 0, 1) := by decide +kernel
theorem dX12_isFree_51 : decode cX12_isFree 51 = .ok (.getfield 32, 3) := by decide +kernel
theorem dX12_isFree_54 : decode cX12_isFree 54 = .ok (.iload 7, 2) := by decide +kernel
theorem dX12_isFree_56 : decode cX12_isFree 56 = .ok (.iaload, 1) := by decide +kernel
theorem dX12_isFree_57 : decode cX12_isFree 57 = .ok (.isub, 1) := by decide +kernel
theorem dX12_isFree_58 : decode cX12_isFree 58 = .ok (.goto 10, 3) := by decide +kernel
theorem dX12_isFree_61 : decode cX12_isFree 61 = .ok (.aload_n 0, 1) := by decide +kernel
theorem dX12_isFree_62 : decode cX12_isFree 62 = .ok (.getfield 26, 3) := by decide +kernel
theorem dX12_isFree_65 : decode cX12_isFree 65 = .ok (.iload 7, 2) := by decide +kernel
theorem dX12_isFree_67 : decode cX12_isFree 67 = .ok (.iaload, 1) := by decide +kernel
theorem dX12_isFree_68 : decode cX12_isFree 68 = .ok (.istore 8, 2) := by decide +kernel
theorem dX12_isFree_70 : decode cX12_isFree 70 = .ok (.iload_n 3, 1) := by decide +kernel
theorem dX12_isFree_71 : decode cX12_isFree 71 = .ok (.ifCond .eq 33, 3) := by decide +kernel
theorem dX12_isFree_74 : decode cX12_isFree 74 = .ok (.aload_n 0, 1) := by decide +kernel
theorem dX12_isFree_75 : decode cX12_isFree 75 = .ok (.iconst 1, 1) := by decide +kernel
theorem dX12_isFree_76 : decode cX12_isFree 76 = .ok (.invokevirtual 376, 3) := by decide +kernel
theorem dX12_isFree_79 : decode cX12_isFree 79 = .ok (.aload_n 0, 1) := by decide +kernel
theorem dX12_isFree_80 : decode cX12_isFree 80 = .ok (.iconst 1, 1) := by decide +kernel
theorem dX12_isFree_81 : decode cX12_isFree 81 = .ok (.invokevirtual 379, 3) := by decide +kernel
theorem dX12_isFree_84 : decode cX12_isFree 84 = .ok (.iadd, 1) := by decide +kernel
theorem dX12_isFree_85 : decode cX12_isFree 85 = .ok (.aload_n 0, 1) := by decide +kernel
theorem dX12_isFree_86 : decode cX12_isFree 86 = .ok (.getfield 29, 3) := by decide +kernel
theorem dX12_isFree_89 : decode cX12_isFree 89 = .ok (.iload 7, 2) := by decide +kernel
theorem dX12_isFree_91 : decode cX12_isFree 91 = .ok (.iaload, 1) := by decide +kernel
theorem dX12_isFree_92 : decode cX12_isFree 92 = .ok (.isub, 1) := by decide +kernel
theorem dX12_isFree_93 : decode cX12_isFree 93 = .ok (.aload_n 0, 1) := by decide +kernel
theorem dX12_isFree_94 : decode cX12_isFree 94 = .ok (.getfield 35, 3) := by decide +kernel
theorem dX12_isFree_97 : decode cX12_isFree 97 = .ok (.iload 7, 2) := by decide +kernel
theorem dX12_isFree_99 : decode cX12_isFree 99 = .ok (.iaload, 1) := by decide +kernel
theorem dX12_isFree_100 : decode cX12_isFree 100 = .ok (.isub, 1) := by decide +kernel
theorem dX12_isFree_101 : decode cX12_isFree 101 = .ok (.goto 10, 3) := by decide +kernel
theorem dX12_isFree_104 : decode cX12_isFree 104 = .ok (.aload_n 0, 1) := by decide +kernel
theorem dX12_isFree_105 : decode cX12_isFree 105 = .ok (.getfield 29, 3) := by decide +kernel
theorem dX12_isFree_108 : decode cX12_isFree 108 = .ok (.iload 7, 2) := by decide +kernel
theorem dX12_isFree_110 : decode cX12_isFree 110 = .ok (.iaload, 1) := by decide +kernel
theorem dX12_isFree_111 : decode cX12_isFree 111 = .ok (.istore 9, 2) := by decide +kernel
theorem dX12_isFree_113 : decode cX12_isFree 113 = .ok (.iload 5, 2) := by decide +kernel
theorem dX12_isFree_115 : decode cX12_isFree 115 = .ok (.ifCond .eq 48, 3) := by decide +kernel
theorem dX12_isFree_118 : decode cX12_isFree 118 = .ok (.aload_n 0, 1) := by decide +kernel
theorem dX12_isFree_119 : decode cX12_isFree 119 = .ok (.iload 6, 2) := by decide +kernel
theorem dX12_isFree_121 : decode cX12_isFree 121 = .ok (.iload 7, 2) := by decide +kernel
theorem dX12_isFree_123 : decode cX12_isFree 123 = .ok (.iload_n 1, 1) := by decide +kernel
theorem dX12_isFree_124 : decode cX12_isFree 124 = .ok (.ifCond .ne 11, 3) := by decide +kernel
theorem dX12_isFree_127 : decode cX12_isFree 127 = .ok (.iload 8, 2) := by decide +kernel
theorem dX12_isFree_129 : decode cX12_isFree 129 = .ok (.iload 4, 2) := by decide +kernel
theorem dX12_isFree_131 : decode cX12_isFree 131 = .ok (.iadd, 1) := by decide +kernel
theorem dX12_isFree_132 : decode cX12_isFree 132 = .ok (.goto 5, 3) := by decide +kernel
theorem dX12_isFree_135 : decode cX12_isFree 135 = .ok (.iload 8, 2) := by decide +kernel
theorem dX12_isFree_137 : decode cX12_isFree 137 = .ok (.iload_n 1, 1) := by decide +kernel
theorem dX12_isFree_138 : decode cX12_isFree 138 = .ok (.iconst 1, 1) := by decide +kernel
theorem dX12_isFree_139 : decode cX12_isFree 139 = .ok (.if_icmp .ne 11, 3) := by decide +kernel
theorem dX12_isFree_142 : decode cX12_isFree 142 = .ok (.iload 9, 2) := by decide +kernel
theorem dX12_isFree_144 : decode cX12_isFree 144 = .ok (.iload 4, 2) := by decide +kernel
theorem dX12_isFree_146 : decode cX12_isFree 146 = .ok (.iadd, 1) := by decide +kernel
theorem dX12_isFree_147 : decode cX12_isFree 147 = .ok (.goto 5, 3) := by decide +kernel
theorem dX12_isFree_150 : decode cX12_isFree 150 = .ok (.iload 9, 2) := by decide +kernel
theorem dX12_isFree_152 : decode cX12_isFree 152 = .ok (.iload_n 2, 1) := by decide +kernel
theorem dX12_isFree_153 : decode cX12_isFree 153 = .ok (.invokevirtual 382, 3) := by decide +kernel
theorem dX12_isFree_156 : decode cX12_isFree 156 = .ok (.ifCond .ne 7, 3) := by decide +kernel
theorem dX12_isFree_159 : decode cX12_isFree 159 = .ok (.iconst 1, 1) := by decide +kernel
theorem dX12_isFree_160 : decode cX12_isFree 160 = .ok (.goto 4, 3) := by decide +kernel
theorem dX12_isFree_163 : decode cX12_isFree 163 = .ok (.iconst 0, 1) := by decide +kernel
theorem dX12_isFree_164 : decode cX12_isFree 164 = .ok (.istore 5, 2) := by decide +kernel
theorem dX12_isFree_166 : decode cX12_isFree 166 = .ok (.iinc 7 1, 3) := by decide +kernel
theorem dX12_isFree_169 : decode cX12_isFree 169 = .ok (.goto (-151), 3) := by decide +kernel
theorem dX12_isFree_172 : decode cX12_isFree 172 = .ok (.iinc 6 1, 3) := by decide +kernel
theorem dX12_isFree_175 : decode cX12_isFree 175 = .ok (.goto (-169), 3) := by decide +kernel
theorem dX12_isFree_178 : decode cX12_isFree 178 = .ok (.iload 5, 2) := by decide +kernel
theorem dX12_isFree_180 : decode cX12_isFree 180 = .ok (.ireturn, 1) := by decide +kernel
theorem dX12_pitchOf_0 : decode cX12_pitchOf 0 = .ok (.aload_n 0, 1) := by decide +kernel
theorem dX12_pitchOf_1 : decode cX12_pitchOf 1 = .ok (.invokevirtual 120, 3) := by decide +kernel
theorem dX12_pitchOf_4 : decode cX12_pitchOf 4 = .ok (.iconst 0, 1) := by decide +kernel
theorem dX12_pitchOf_5 : decode cX12_pitchOf 5 = .ok (.istore 4, 2) := by decide +kernel
theorem dX12_pitchOf_7 : decode cX12_pitchOf 7 = .ok (.iconst 0, 1) := by decide +kernel
theorem dX12_pitchOf_8 : decode cX12_pitchOf 8 = .ok (.istore 5, 2) := by decide +kernel
theorem dX12_pitchOf_10 : decode cX12_pitchOf 10 = .ok (.iload 5, 2) := by decide +kernel
theorem dX12_pitchOf_12 : decode cX12_pitchOf 12 = .ok (.ifCond .ne 64, 3) := by decide +kernel
theorem dX12_pitchOf_15 : decode cX12_pitchOf 15 = .ok (.iinc 4 1, 3) := by decide +kernel
theorem dX12_pitchOf_18 : decode cX12_pitchOf 18 = .ok (.iconst 1, 1) := by decide +kernel
theorem dX12_pitchOf_19 : decode cX12_pitchOf 19 = .ok (.istore 5, 2) := by decide +kernel
theorem dX12_pitchOf_21 : decode cX12_pitchOf 21 = .ok (.iload 4, 2) := by decide +kernel
theorem dX12_pitchOf_23 : decode cX12_pitchOf 23 = .ok (.istore 6, 2) := by decide +kernel
theorem dX12_pitchOf_25 : decode cX12_pitchOf 25 = .ok (.iload 6, 2) := by decide +kernel
theorem dX12_pitchOf_27 : decode cX12_pitchOf 27 = .ok (.iload_n 3, 1) := by decide +kernel
theorem dX12_pitchOf_28 : decode cX12_pitchOf 28 = .ok (.ifCond .eq 8, 3) := by decide +kernel
theorem dX12_pitchOf_31 : decode cX12_pitchOf 31 = .ok (.iload 4, 2) := by decide +kernel
theorem dX12_pitchOf_33 : decode cX12_pitchOf 33 = .ok (.goto 11, 3) := by decide +kernel
theorem dX12_pitchOf_36 : decode cX12_pitchOf 36 = .ok (.iload 4, 2) := by decide +kernel
theorem dX12_pitchOf_38 : decode cX12_pitchOf 38 = .ok (.sipush 400, 3) := by decide +kernel
theorem dX12_pitchOf_41 : decode cX12_pitchOf 41 = .ok (.invokestatic 113, 3) := by decide +kernel
theorem dX12_pitchOf_44 : decode cX12_pitchOf 44 = .ok (.if_icmp .gt 29, 3) := by decide +kernel
theorem dX12_pitchOf_47 : decode cX12_pitchOf 47 = .ok (.iload 5, 2) := by decide +kernel
theorem dX12_pitchOf_49 : decode cX12_pitchOf 49 = .ok (.ifCond .eq 24, 3) := by decide +kernel
theorem dX12_pitchOf_52 : decode cX12_pitchOf 52 = .ok (.aload_n 0, 1) := by decide +kernel
theorem dX12_pitchOf_53 : decode cX12_pitchOf 53 = .ok (.iload_n 1, 1) := by decide +kernel
theorem dX12_pitchOf_54 : decode cX12_pitchOf 54 = .ok (.iload_n 2, 1) := by decide +kernel
theorem dX12_pitchOf_55 : decode cX12_pitchOf 55 = .ok (.iload_n 3, 1) := by decide +kernel
theorem dX12_pitchOf_56 : decode cX12_pitchOf 56 = .ok (.iload 6, 2) := by decide +kernel
theorem dX12_pitchOf_58 : decode cX12_pitchOf 58 = .ok (.invokevirtual 386, 3) := by decide +kernel
theorem dX12_pitchOf_61 : decode cX12_pitchOf 61 = .ok (.istore 5, 2) := by decide +kernel
theorem dX12_pitchOf_63 : decode cX12_pitchOf 63 = .ok (.iload 6, 2) := by decide +kernel
theorem dX12_pitchOf_65 : decode cX12_pitchOf 65 = .ok (.iload 4, 2) := by decide +kernel
theorem dX12_pitchOf_67 : decode cX12_pitchOf 67 = .ok (.iadd, 1) := by decide +kernel
theorem dX12_pitchOf_68 : decode cX12_pitchOf 68 = .ok (.istore 6, 2) := by decide +kernel
theorem dX12_pitchOf_70 : decode cX12_pitchOf 70 = .ok (.goto (-45), 3) := by decide +kernel
theorem dX12_pitchOf_73 : decode cX12_pitchOf 73 = .ok (.goto (-63), 3) := by decide +kernel
theorem dX12_pitchOf_76 : decode cX12_pitchOf 76 = .ok (.iload 4, 2) := by decide +kernel
theorem dX12_pitchOf_78 : decode cX12_pitchOf 78 = .ok (.ireturn, 1) := by decide +kernel
theorem dX12_pitch_0 : decode cX12_pitch 0 = .ok (.iload_n 1, 1) := by decide +kernel
theorem dX12_pitch_1 : decode cX12_pitch 1 = .ok (.iconst 0, 1) := by decide +kernel
theorem dX12_pitch_2 : decode cX12_pitch 2 = .ok (.iconst 1, 1) := by decide +kernel
theorem dX12_pitch_3 : decode cX12_pitch 3 = .ok (.invokestatic 87, 3) := by decide +kernel
theorem dX12_pitch_6 : decode cX12_pitch 6 = .ok (.ifCond .eq 13, 3) := by decide +kernel
theorem dX12_pitch_9 : decode cX12_pitch 9 = .ok (.iload_n 2, 1) := by decide +kernel
theorem dX12_pitch_10 : decode cX12_pitch 10 = .ok (.iconst 0, 1) := by decide +kernel
theorem dX12_pitch_11 : decode cX12_pitch 11 = .ok (.bipush 50, 2) := by decide +kernel
theorem dX12_pitch_13 : decode cX12_pitch 13 = .ok (.invokestatic 87, 3) := by decide +kernel
theorem dX12_pitch_16 : decode cX12_pitch 16 = .ok (.ifCond .ne 5, 3) := by decide +kernel
theorem dX12_pitch_19 : decode cX12_pitch 19 = .ok (.iconst (-1), 1) := by decide +kernel
theorem dX12_pitch_20 : decode cX12_pitch 20 = .ok (.ireturn, 1) := by decide +kernel
theorem dX12_pitch_21 : decode cX12_pitch 21 = .ok (.aload_n 0, 1) := by decide +kernel
theorem dX12_pitch_22 : decode cX12_pitch 22 = .ok (.invokevirtual 83, 3) := by decide +kernel
theorem dX12_pitch_25 : decode cX12_pitch 25 = .ok (.ifCond .ne 8, 3) := by decide +kernel
theorem dX12_pitch_28 : decode cX12_pitch 28 = .ok (.bipush (-2), 2) := by decide +kernel
theorem dX12_pitch_30 : decode cX12_pitch 30 = .ok (.goto 10, 3) := by decide +kernel
theorem dX12_pitch_33 : decode cX12_pitch 33 = .ok (.aload_n 0, 1) := by decide +kernel
theorem dX12_pitch_34 : decode cX12_pitch 34 = .ok (.iload_n 1, 1) := by decide +kernel
theorem dX12_pitch_35 : decode cX12_pitch 35 = .ok (.iload_n 2, 1) := by decide +kernel
theorem dX12_pitch_36 : decode cX12_pitch 36 = .ok (.iload_n 3, 1) := by decide +kernel
theorem dX12_pitch_37 : decode cX12_pitch 37 = .ok (.invokevirtual 390, 3) := by decide +kernel
theorem dX12_pitch_40 : decode cX12_pitch 40 = .ok (.ireturn, 1) := by decide +kernel
theorem dX12_rowCount_0 : decode cX12_rowCount 0 = .ok (.iload_n 1, 1) := by decide +kernel
theorem dX12_rowCount_1 : decode cX12_rowCount 1 = .ok (.iconst 0, 1) := by decide +kernel
theorem dX12_rowCount_2 : decode cX12_rowCount 2 = .ok (.iconst 1, 1) := by decide +kernel
theorem dX12_rowCount_3 : decode cX12_rowCount 3 = .ok (.invokestatic 87, 3) := by decide +kernel
theorem dX12_rowCount_6 : decode cX12_rowCount 6 = .ok (.ifCond .eq 13, 3) := by decide +kernel
theorem dX12_rowCount_9 : decode cX12_rowCount 9 = .ok (.iload_n 2, 1) := by decide +kernel
theorem dX12_rowCount_10 : decode cX12_rowCount 10 = .ok (.iconst 0, 1) := by decide +kernel
theorem dX12_rowCount_11 : decode cX12_rowCount 11 = .ok (.bipush 50, 2) := by decide +kernel
theorem dX12_rowCount_13 : decode cX12_rowCount 13 = .ok (.invokestatic 87, 3) := by decide +kernel
theorem dX12_rowCount_16 : decode cX12_rowCount 16 = .ok (.ifCond .ne 5, 3) := by decide +kernel
theorem dX12_rowCount_19 : decode cX12_rowCount 19 = .ok (.iconst (-1), 1) := by decide +kernel
theorem dX12_rowCount_20 : decode cX12_rowCount 20 = .ok (.ireturn, 1) := by decide +kernel
theorem dX12_rowCount_21 : decode cX12_rowCount 21 = .ok (.aload_n 0, 1) := by decide +kernel
theorem dX12_rowCount_22 : decode cX12_rowCount 22 = .ok (.invokevirtual 83, 3) := by decide +kernel
theorem dX12_rowCount_25 : decode cX12_rowCount 25 = .ok (.ifCond .ne 6, 3) := by decide +kernel
theorem dX12_rowCount_28 : decode cX12_rowCount 28 = .ok (.bipush (-2), 2) := by decide +kernel
theorem dX12_rowCount_30 : decode cX12_rowCount 30 = .ok (.ireturn, 1) := by decide +kernel
theorem dX12_rowCount_31 : decode cX12_rowCount 31 = .ok (.aload_n 0, 1) := by decide +kernel
theorem dX12_rowCount_32 : decode cX12_rowCount 32 = .ok (.iload_n 1, 1) := by decide +kernel
theorem dX12_rowCount_33 : decode cX12_rowCount 33 = .ok (.iload_n 2, 1) := by decide +kernel
theorem dX12_rowCount_34 : decode cX12_rowCount 34 = .ok (.iconst 0, 1) := by decide +kernel
theorem dX12_rowCount_35 : decode cX12_rowCount 35 = .ok (.invokevirtual 390, 3) := by decide +kernel
theorem dX12_rowCount_38 : decode cX12_rowCount 38 = .ok (.istore_n 3, 1) := by decide +kernel
theorem dX12_rowCount_39 : decode cX12_rowCount 39 = .ok (.iconst 1, 1) := by decide +kernel
theorem dX12_rowCount_40 : decode cX12_rowCount 40 = .ok (.iload_n 1, 1) := by decide +kernel
theorem dX12_rowCount_41 : decode cX12_rowCount 41 = .ok (.ifCond .ne 12, 3) := by decide +kernel
theorem dX12_rowCount_44 : decode cX12_rowCount 44 = .ok (.aload_n 0, 1) := by decide +kernel
theorem dX12_rowCount_45 : decode cX12_rowCount 45 = .ok (.getfield 7, 3) := by decide +kernel
theorem dX12_rowCount_48 : decode cX12_rowCount 48 = .ok (.iconst 0, 1) := by decide +kernel
theorem dX12_rowCount_49 : decode cX12_rowCount 49 = .ok (.iaload, 1) := by decide +kernel
theorem dX12_rowCount_50 : decode cX12_rowCount 50 = .ok (.goto 9, 3) := by decide +kernel
theorem dX12_rowCount_53 : decode cX12_rowCount 53 = .ok (.aload_n 0, 1) := by decide +kernel
theorem dX12_rowCount_54 : decode cX12_rowCount 54 = .ok (.getfield 7, 3) := by decide +kernel
theorem dX12_rowCount_57 : decode cX12_rowCount 57 = .ok (.iconst 1, 1) := by decide +kernel
theorem dX12_rowCount_58 : decode cX12_rowCount 58 = .ok (.iaload, 1) := by decide +kernel
theorem dX12_rowCount_59 : decode cX12_rowCount 59 = .ok (.aload_n 0, 1) := by decide +kernel
theorem dX12_rowCount_60 : decode cX12_rowCount 60 = .ok (.iload_n 1, 1) := by decide +kernel
theorem dX12_rowCount_61 : decode cX12_rowCount 61 = .ok (.invokevirtual 379, 3) := by decide +kernel
theorem dX12_rowCount_64 : decode cX12_rowCount 64 = .ok (.aload_n 0, 1) := by decide +kernel
theorem dX12_rowCount_65 : decode cX12_rowCount 65 = .ok (.iload_n 1, 1) := by decide +kernel
theorem dX12_rowCount_66 : decode cX12_rowCount 66 = .ok (.invokevirtual 376, 3) := by decide +kernel
theorem dX12_rowCount_69 : decode cX12_rowCount 69 = .ok (.isub, 1) := by decide +kernel
theorem dX12_rowCount_70 : decode cX12_rowCount 70 = .ok (.isub, 1) := by decide +kernel
theorem dX12_rowCount_71 : decode cX12_rowCount 71 = .ok (.iload_n 3, 1) := by decide +kernel
theorem dX12_rowCount_72 : decode cX12_rowCount 72 = .ok (.idiv, 1) := by decide +kernel
theorem dX12_rowCount_73 : decode cX12_rowCount 73 = .ok (.iadd, 1) := by decide +kernel
theorem dX12_rowCount_74 : decode cX12_rowCount 74 = .ok (.ireturn, 1) := by decide +kernel
theorem dX12_corner_0 : decode cX12_corner 0 = .ok (.aload_n 0, 1) := by decide +kernel
theorem dX12_corner_1 : decode cX12_corner 1 = .ok (.iload_n 1, 1) := by decide +kernel
theorem dX12_corner_2 : decode cX12_corner 2 = .ok (.invokevirtual 145, 3) := by decide +kernel
theorem dX12_corner_5 : decode cX12_corner 5 = .ok (.ifCond .eq 21, 3) := by decide +kernel
theorem dX12_corner_8 : decode cX12_corner 8 = .ok (.iload_n 2, 1) := by decide +kernel
theorem dX12_corner_9 : decode cX12_corner 9 = .ok (.iconst 0, 1) := by decide +kernel
theorem dX12_corner_10 : decode cX12_corner 10 = .ok (.iconst 3, 1) := by decide +kernel
theorem dX12_corner_11 : decode cX12_corner 11 = .ok (.invokestatic 87, 3) := by decide +kernel
theorem dX12_corner_14 : decode cX12_corner 14 = .ok (.ifCond .eq 12, 3) := by decide +kernel
theorem dX12_corner_17 : decode cX12_corner 17 = .ok (.iload_n 3, 1) := by decide +kernel
theorem dX12_corner_18 : decode cX12_corner 18 = .ok (.iconst 0, 1) := by decide +kernel
theorem dX12_corner_19 : decode cX12_corner 19 = .ok (.iconst 2, 1) := by decide +kernel
theorem dX12_corner_20 : decode cX12_corner 20 = .ok (.invokestatic 87, 3) := by decide +kernel
theorem dX12_corner_23 : decode cX12_corner 23 = .ok (.ifCond .ne 5, 3) := by decide +kernel
theorem dX12_corner_26 : decode cX12_corner 26 = .ok (.iconst (-1), 1) := by decide +kernel
theorem dX12_corner_27 : decode cX12_corner 27 = .ok (.ireturn, 1) := by decide +kernel
theorem dX12_corner_28 : decode cX12_corner 28 = .ok (.aload_n 0, 1) := by decide +kernel
theorem dX12_corner_29 : decode cX12_corner 29 = .ok (.iconst (-1), 1) := by decide +kernel
theorem dX12_corner_30 : decode cX12_corner 30 = .ok (.invokevirtual 246, 3) := by decide +kernel
theorem dX12_corner_33 : decode cX12_corner 33 = .ok (.aload_n 0, 1) := by decide +kernel
theorem dX12_corner_34 : decode cX12_corner 34 = .ok (.iload_n 1, 1) := by decide +kernel
theorem dX12_corner_35 : decode cX12_corner 35 = .ok (.iload_n 2, 1) := by decide +kernel
theorem dX12_corner_36 : decode cX12_corner 36 = .ok (.iload_n 3, 1) := by decide +kernel
theorem dX12_corner_37 : decode cX12_corner 37 = .ok (.invokevirtual 228, 3) := by decide +kernel
theorem dX12_corner_40 : decode cX12_corner 40 = .ok (.ireturn, 1) := by decide +kernel
theorem dX12_facing_0 : decode cX12_facing 0 = .ok (.aload_n 0, 1) := by decide +kernel
theorem dX12_facing_1 : decode cX12_facing 1 = .ok (.iload_n 1, 1) := by decide +kernel
theorem dX12_facing_2 : decode cX12_facing 2 = .ok (.invokevirtual 145, 3) := by decide +kernel
theorem dX12_facing_5 : decode cX12_facing 5 = .ok (.ifCond .ne 5, 3) := by decide +kernel
theorem dX12_facing_8 : decode cX12_facing 8 = .ok (.iconst (-1), 1) := by decide +kernel
theorem dX12_facing_9 : decode cX12_facing 9 = .ok (.ireturn, 1) := by decide +kernel
theorem dX12_facing_10 : decode cX12_facing 10 = .ok (.aload_n 0, 1) := by decide +kernel
theorem dX12_facing_11 : decode cX12_facing 11 = .ok (.iconst (-1), 1) := by decide +kernel
theorem dX12_facing_12 : decode cX12_facing 12 = .ok (.invokevirtual 246, 3) := by decide +kernel
theorem dX12_facing_15 : decode cX12_facing 15 = .ok (.iconst 2, 1) := by decide +kernel
theorem dX12_facing_16 : decode cX12_facing 16 = .ok (.aload_n 0, 1) := by decide +kernel
theorem dX12_facing_17 : decode cX12_facing 17 = .ok (.getfield 65, 3) := by decide +kernel
theorem dX12_facing_20 : decode cX12_facing 20 = .ok (.iload_n 1, 1) := by decide +kernel
theorem dX12_facing_21 : decode cX12_facing 21 = .ok (.iaload, 1) := by decide +kernel
theorem dX12_facing_22 : decode cX12_facing 22 = .ok (.imul, 1) := by decide +kernel
theorem dX12_facing_23 : decode cX12_facing 23 = .ok (.aload_n 0, 1) := by decide +kernel
theorem dX12_facing_24 : decode cX12_facing 24 = .ok (.getfield 56, 3) := by decide +kernel
theorem dX12_facing_27 : decode cX12_facing 27 = .ok (.iconst 3, 1) := by decide +kernel
theorem dX12_facing_28 : decode cX12_facing 28 = .ok (.iload_n 1, 1) := by decide +kernel
theorem dX12_facing_29 : decode cX12_facing 29 = .ok (.imul, 1) := by decide +kernel
theorem dX12_facing_30 : decode cX12_facing 30 = .ok (.aload_n 0, 1) := by decide +kernel
theorem dX12_facing_31 : decode cX12_facing 31 = .ok (.getfield 65, 3) := by decide +kernel
theorem dX12_facing_34 : decode cX12_facing 34 = .ok (.iload_n 1, 1) := by decide +kernel
theorem dX12_facing_35 : decode cX12_facing 35 = .ok (.iaload, 1) := by decide +kernel
theorem dX12_facing_36 : decode cX12_facing 36 = .ok (.iadd, 1) := by decide +kernel
theorem dX12_facing_37 : decode cX12_facing 37 = .ok (.iaload, 1) := by decide +kernel
theorem dX12_facing_38 : decode cX12_facing 38 = .ok (.ifCond .ge 7, 3) := by decide +kernel
theorem dX12_facing_41 : decode cX12_facing 41 = .ok (.iconst 1, 1) := by decide +kernel
theorem dX12_facing_42 : decode cX12_facing 42 = .ok (.goto 4, 3) := by decide +kernel
theorem dX12_facing_45 : decode cX12_facing 45 = .ok (.iconst 0, 1) := by decide +kernel
theorem dX12_facing_46 : decode cX12_facing 46 = .ok (.iadd, 1) := by decide +kernel
theorem dX12_facing_47 : decode cX12_facing 47 = .ok (.ireturn, 1) := by decide +kernel
theorem dX12_openLength_0 : decode cX12_openLength 0 = .ok (.aload_n 0, 1) := by decide +kernel
theorem dX12_openLength_1 : decode cX12_openLength 1 = .ok (.iload_n 1, 1) := by decide +kernel
theorem dX12_openLength_2 : decode cX12_openLength 2 = .ok (.invokevirtual 145, 3) := by decide +kernel
theorem dX12_openLength_5 : decode cX12_openLength 5 = .ok (.ifCond .eq 12, 3) := by decide +kernel
theorem dX12_openLength_8 : decode cX12_openLength 8 = .ok (.iload_n 2, 1) := by decide +kernel
theorem dX12_openLength_9 : decode cX12_openLength 9 = .ok (.iconst 0, 1) := by decide +kernel
theorem dX12_openLength_10 : decode cX12_openLength 10 = .ok (.iconst 3, 1) := by decide +kernel
theorem dX12_openLength_11 : decode cX12_openLength 11 = .ok (.invokestatic 87, 3) := by decide +kernel
theorem dX12_openLength_14 : decode cX12_openLength 14 = .ok (.ifCond .ne 5, 3) := by decide +kernel
theorem dX12_openLength_17 : decode cX12_openLength 17 = .ok (.iconst (-1), 1) := by decide +kernel
theorem dX12_openLength_18 : decode cX12_openLength 18 = .ok (.ireturn, 1) := by decide +kernel
theorem dX12_openLength_19 : decode cX12_openLength 19 = .ok (.aload_n 0, 1) := by decide +kernel
theorem dX12_openLength_20 : decode cX12_openLength 20 = .ok (.aload_n 0, 1) := by decide +kernel
theorem dX12_openLength_21 : decode cX12_openLength 21 = .ok (.iconst 0, 1) := by decide +kernel
theorem dX12_openLength_22 : decode cX12_openLength 22 = .ok (.invokevirtual 293, 3) := by decide +kernel
theorem dX12_openLength_25 : decode cX12_openLength 25 = .ok (.invokevirtual 296, 3) := by decide +kernel
theorem dX12_openLength_28 : decode cX12_openLength 28 = .ok (.aload_n 0, 1) := by decide +kernel
theorem dX12_openLength_29 : decode cX12_openLength 29 = .ok (.iload_n 1, 1) := by decide +kernel
theorem dX12_openLength_30 : decode cX12_openLength 30 = .ok (.iload_n 2, 1) := by decide +kernel
theorem dX12_openLength_31 : decode cX12_openLength 31 = .ok (.aload_n 0, 1) := by decide +kernel
theorem dX12_openLength_32 : decode cX12_openLength 32 = .ok (.iconst 0, 1) := by decide +kernel
theorem dX12_openLength_33 : decode cX12_openLength 33 = .ok (.invokevirtual 293, 3) := by decide +kernel
theorem dX12_openLength_36 : decode cX12_openLength 36 = .ok (.invokevirtual 317, 3) := by decide +kernel
theorem dX12_openLength_39 : decode cX12_openLength 39 = .ok (.ireturn, 1) := by decide +kernel
theorem dX12_seamCount_0 : decode cX12_seamCount 0 = .ok (.aload_n 0, 1) := by decide +kernel
theorem dX12_seamCount_1 : decode cX12_seamCount 1 = .ok (.aload_n 0, 1) := by decide +kernel
theorem dX12_seamCount_2 : decode cX12_seamCount 2 = .ok (.iconst 0, 1) := by decide +kernel
theorem dX12_seamCount_3 : decode cX12_seamCount 3 = .ok (.invokevirtual 293, 3) := by decide +kernel
theorem dX12_seamCount_6 : decode cX12_seamCount 6 = .ok (.invokevirtual 296, 3) := by decide +kernel
theorem dX12_seamCount_9 : decode cX12_seamCount 9 = .ok (.aload_n 0, 1) := by decide +kernel
theorem dX12_seamCount_10 : decode cX12_seamCount 10 = .ok (.getfield 243, 3) := by decide +kernel
theorem dX12_seamCount_13 : decode cX12_seamCount 13 = .ok (.ireturn, 1) := by decide +kernel
theorem dX12_seam_0 : decode cX12_seam 0 = .ok (.aload_n 0, 1) := by decide +kernel
theorem dX12_seam_1 : decode cX12_seam 1 = .ok (.aload_n 0, 1) := by decide +kernel
theorem dX12_seam_2 : decode cX12_seam 2 = .ok (.iconst 0, 1) := by decide +kernel
theorem dX12_seam_3 : decode cX12_seam 3 = .ok (.invokevirtual 293, 3) := by decide +kernel
theorem dX12_seam_6 : decode cX12_seam 6 = .ok (.invokevirtual 296, 3) := by decide +kernel
theorem dX12_seam_9 : decode cX12_seam 9 = .ok (.iload_n 1, 1) := by decide +kernel
theorem dX12_seam_10 : decode cX12_seam 10 = .ok (.iconst 0, 1) := by decide +kernel
theorem dX12_seam_11 : decode cX12_seam 11 = .ok (.aload_n 0, 1) := by decide +kernel
theorem dX12_seam_12 : decode cX12_seam 12 = .ok (.getfield 243, 3) := by decide +kernel
theorem dX12_seam_15 : decode cX12_seam 15 = .ok (.iconst 1, 1) := by decide +kernel
theorem dX12_seam_16 : decode cX12_seam 16 = .ok (.isub, 1) := by decide +kernel
theorem dX12_seam_17 : decode cX12_seam 17 = .ok (.invokestatic 87, 3) := by decide +kernel
theorem dX12_seam_20 : decode cX12_seam 20 = .ok (.ifCond .eq 13, 3) := by decide +kernel
theorem dX12_seam_23 : decode cX12_seam 23 = .ok (.iload_n 2, 1) := by decide +kernel
theorem dX12_seam_24 : decode cX12_seam 24 = .ok (.iconst 0, 1) := by decide +kernel
theorem dX12_seam_25 : decode cX12_seam 25 = .ok (.bipush 7, 2) := by decide +kernel
theorem dX12_seam_27 : decode cX12_seam 27 = .ok (.invokestatic 87, 3) := by decide +kernel
theorem dX12_seam_30 : decode cX12_seam 30 = .ok (.ifCond .ne 5, 3) := by decide +kernel
theorem dX12_seam_33 : decode cX12_seam 33 = .ok (.iconst (-1), 1) := by decide +kernel
theorem dX12_seam_34 : decode cX12_seam 34 = .ok (.ireturn, 1) := by decide +kernel
theorem dX12_seam_35 : decode cX12_seam 35 = .ok (.bipush 9, 2) := by decide +kernel
theorem dX12_seam_37 : decode cX12_seam 37 = .ok (.iload_n 1, 1) := by decide +kernel
theorem dX12_seam_38 : decode cX12_seam 38 = .ok (.imul, 1) := by decide +kernel
theorem dX12_seam_39 : decode cX12_seam 39 = .ok (.istore_n 3, 1) := by decide +kernel
theorem dX12_seam_40 : decode cX12_seam 40 = .ok (.iload_n 2, 1) := by decide +kernel
theorem dX12_seam_41 : decode cX12_seam 41 = .ok (.tableswitch 67 4 7 #[31, 50, 50, 61], 31) := by decide +kernel
theorem dX12_seam_72 : decode cX12_seam 72 = .ok (.aload_n 0, 1) := by decide +kernel
theorem dX12_seam_73 : decode cX12_seam 73 = .ok (.getfield 68, 3) := by decide +kernel
theorem dX12_seam_76 : decode cX12_seam 76 = .ok (.iload_n 3, 1) := by decide +kernel
theorem dX12_seam_77 : decode cX12_seam 77 = .ok (.bipush 6, 2) := by decide +kernel
theorem dX12_seam_79 : decode cX12_seam 79 = .ok (.iadd, 1) := by decide +kernel
theorem dX12_seam_80 : decode cX12_seam 80 = .ok (.iaload, 1) := by decide +kernel
theorem dX12_seam_81 : decode cX12_seam 81 = .ok (.aload_n 0, 1) := by decide +kernel
theorem dX12_seam_82 : decode cX12_seam 82 = .ok (.getfield 68, 3) := by decide +kernel
theorem dX12_seam_85 : decode cX12_seam 85 = .ok (.iload_n 3, 1) := by decide +kernel
theorem dX12_seam_86 : decode cX12_seam 86 = .ok (.iconst 5, 1) := by decide +kernel
theorem dX12_seam_87 : decode cX12_seam 87 = .ok (.iadd, 1) := by decide +kernel
theorem dX12_seam_88 : decode cX12_seam 88 = .ok (.iaload, 1) := by decide +kernel
theorem dX12_seam_89 : decode cX12_seam 89 = .ok (.isub, 1) := by decide +kernel
theorem dX12_seam_90 : decode cX12_seam 90 = .ok (.ireturn, 1) := by decide +kernel
theorem dX12_seam_91 : decode cX12_seam 91 = .ok (.aload_n 0, 1) := by decide +kernel
theorem dX12_seam_92 : decode cX12_seam 92 = .ok (.getfield 68, 3) := by decide +kernel
theorem dX12_seam_95 : decode cX12_seam 95 = .ok (.iload_n 3, 1) := by decide +kernel
theorem dX12_seam_96 : decode cX12_seam 96 = .ok (.iload_n 2, 1) := by decide +kernel
theorem dX12_seam_97 : decode cX12_seam 97 = .ok (.iadd, 1) := by decide +kernel
theorem dX12_seam_98 : decode cX12_seam 98 = .ok (.iconst 2, 1) := by decide +kernel
theorem dX12_seam_99 : decode cX12_seam 99 = .ok (.iadd, 1) := by decide +kernel
theorem dX12_seam_100 : decode cX12_seam 100 = .ok (.iaload, 1) := by decide +kernel
theorem dX12_seam_101 : decode cX12_seam 101 = .ok (.ireturn, 1) := by decide +kernel
theorem dX12_seam_102 : decode cX12_seam 102 = .ok (.aload_n 0, 1) := by decide +kernel
theorem dX12_seam_103 : decode cX12_seam 103 = .ok (.iload_n 1, 1) := by decide +kernel
theorem dX12_seam_104 : decode cX12_seam 104 = .ok (.invokevirtual 338, 3) := by decide +kernel
theorem dX12_seam_107 : decode cX12_seam 107 = .ok (.ireturn, 1) := by decide +kernel
theorem dX12_seam_108 : decode cX12_seam 108 = .ok (.aload_n 0, 1) := by decide +kernel
theorem dX12_seam_109 : decode cX12_seam 109 = .ok (.getfield 68, 3) := by decide +kernel
theorem dX12_seam_112 : decode cX12_seam 112 = .ok (.iload_n 3, 1) := by decide +kernel
theorem dX12_seam_113 : decode cX12_seam 113 = .ok (.iload_n 2, 1) := by decide +kernel
theorem dX12_seam_114 : decode cX12_seam 114 = .ok (.iadd, 1) := by decide +kernel
theorem dX12_seam_115 : decode cX12_seam 115 = .ok (.iaload, 1) := by decide +kernel
theorem dX12_seam_116 : decode cX12_seam 116 = .ok (.ireturn, 1) := by decide +kernel
theorem dX12_coverage_0 : decode cX12_coverage 0 = .ok (.aload_n 0, 1) := by decide +kernel
theorem dX12_coverage_1 : decode cX12_coverage 1 = .ok (.iload_n 1, 1) := by decide +kernel
theorem dX12_coverage_2 : decode cX12_coverage 2 = .ok (.invokevirtual 145, 3) := by decide +kernel
theorem dX12_coverage_5 : decode cX12_coverage 5 = .ok (.ifCond .ne 5, 3) := by decide +kernel
theorem dX12_coverage_8 : decode cX12_coverage 8 = .ok (.iconst (-1), 1) := by decide +kernel
theorem dX12_coverage_9 : decode cX12_coverage 9 = .ok (.ireturn, 1) := by decide +kernel
theorem dX12_coverage_10 : decode cX12_coverage 10 = .ok (.aload_n 0, 1) := by decide +kernel
theorem dX12_coverage_11 : decode cX12_coverage 11 = .ok (.iload_n 1, 1) := by decide +kernel
theorem dX12_coverage_12 : decode cX12_coverage 12 = .ok (.invokevirtual 302, 3) := by decide +kernel
theorem dX12_coverage_15 : decode cX12_coverage 15 = .ok (.ifCond .ne 6, 3) := by decide +kernel
theorem dX12_coverage_18 : decode cX12_coverage 18 = .ok (.bipush (-9), 2) := by decide +kernel
theorem dX12_coverage_20 : decode cX12_coverage 20 = .ok (.ireturn, 1) := by decide +kernel
theorem dX12_coverage_21 : decode cX12_coverage 21 = .ok (.aload_n 0, 1) := by decide +kernel
theorem dX12_coverage_22 : decode cX12_coverage 22 = .ok (.iconst (-1), 1) := by decide +kernel
theorem dX12_coverage_23 : decode cX12_coverage 23 = .ok (.invokevirtual 246, 3) := by decide +kernel
theorem dX12_coverage_26 : decode cX12_coverage 26 = .ok (.aload_n 0, 1) := by decide +kernel
theorem dX12_coverage_27 : decode cX12_coverage 27 = .ok (.iload_n 1, 1) := by decide +kernel
theorem dX12_coverage_28 : decode cX12_coverage 28 = .ok (.aload_n 0, 1) := by decide +kernel
theorem dX12_coverage_29 : decode cX12_coverage 29 = .ok (.iconst 0, 1) := by decide +kernel
theorem dX12_coverage_30 : decode cX12_coverage 30 = .ok (.invokevirtual 293, 3) := by decide +kernel
theorem dX12_coverage_33 : decode cX12_coverage 33 = .ok (.invokevirtual 332, 3) := by decide +kernel
theorem dX12_coverage_36 : decode cX12_coverage 36 = .ok (.ireturn, 1) := by decide +kernel
theorem dX12_isShut_0 : decode cX12_isShut 0 = .ok (.aload_n 0, 1) := by decide +kernel
theorem dX12_isShut_1 : decode cX12_isShut 1 = .ok (.iload_n 1, 1) := by decide +kernel
theorem dX12_isShut_2 : decode cX12_isShut 2 = .ok (.invokevirtual 296, 3) := by decide +kernel
theorem dX12_isShut_5 : decode cX12_isShut 5 = .ok (.iconst 1, 1) := by decide +kernel
theorem dX12_isShut_6 : decode cX12_isShut 6 = .ok (.istore_n 2, 1) := by decide +kernel
theorem dX12_isShut_7 : decode cX12_isShut 7 = .ok (.iconst 0, 1) := by decide +kernel
theorem dX12_isShut_8 : decode cX12_isShut 8 = .ok (.istore_n 3, 1) := by decide +kernel
theorem dX12_isShut_9 : decode cX12_isShut 9 = .ok (.iload_n 3, 1) := by decide +kernel
theorem dX12_isShut_10 : decode cX12_isShut 10 = .ok (.aload_n 0, 1) := by decide +kernel
theorem dX12_isShut_11 : decode cX12_isShut 11 = .ok (.invokevirtual 83, 3) := by decide +kernel
theorem dX12_isShut_14 : decode cX12_isShut 14 = .ok (.if_icmp .ge 53, 3) := by decide +kernel
theorem dX12_isShut_17 : decode cX12_isShut 17 = .ok (.iconst 0, 1) := by decide +kernel
theorem dX12_isShut_18 : decode cX12_isShut 18 = .ok (.istore 4, 2) := by decide +kernel
theorem dX12_isShut_20 : decode cX12_isShut 20 = .ok (.iload 4, 2) := by decide +kernel
theorem dX12_isShut_22 : decode cX12_isShut 22 = .ok (.iconst 4, 1) := by decide +kernel
theorem dX12_isShut_23 : decode cX12_isShut 23 = .ok (.if_icmp .ge 38, 3) := by decide +kernel
theorem dX12_isShut_26 : decode cX12_isShut 26 = .ok (.aload_n 0, 1) := by decide +kernel
theorem dX12_isShut_27 : decode cX12_isShut 27 = .ok (.iload_n 3, 1) := by decide +kernel
theorem dX12_isShut_28 : decode cX12_isShut 28 = .ok (.invokevirtual 302, 3) := by decide +kernel
theorem dX12_isShut_31 : decode cX12_isShut 31 = .ok (.ifCond .ne 30, 3) := by decide +kernel
theorem dX12_isShut_34 : decode cX12_isShut 34 = .ok (.iload_n 2, 1) := by decide +kernel
theorem dX12_isShut_35 : decode cX12_isShut 35 = .ok (.ifCond .eq 18, 3) := by decide +kernel
theorem dX12_isShut_38 : decode cX12_isShut 38 = .ok (.aload_n 0, 1) := by decide +kernel
theorem dX12_isShut_39 : decode cX12_isShut 39 = .ok (.iload_n 3, 1) := by decide +kernel
theorem dX12_isShut_40 : decode cX12_isShut 40 = .ok (.iload 4, 2) := by decide +kernel
theorem dX12_isShut_42 : decode cX12_isShut 42 = .ok (.iload_n 1, 1) := by decide +kernel
theorem dX12_isShut_43 : decode cX12_isShut 43 = .ok (.invokevirtual 317, 3) := by decide +kernel
theorem dX12_isShut_46 : decode cX12_isShut 46 = .ok (.ifCond .ne 7, 3) := by decide +kernel
theorem dX12_isShut_49 : decode cX12_isShut 49 = .ok (.iconst 1, 1) := by decide +kernel
theorem dX12_isShut_50 : decode cX12_isShut 50 = .ok (.goto 4, 3) := by decide +kernel
theorem dX12_isShut_53 : decode cX12_isShut 53 = .ok (.iconst 0, 1) := by decide +kernel
theorem dX12_isShut_54 : decode cX12_isShut 54 = .ok (.istore_n 2, 1) := by decide +kernel
theorem dX12_isShut_55 : decode cX12_isShut 55 = .ok (.iinc 4 1, 3) := by decide +kernel
theorem dX12_isShut_58 : decode cX12_isShut 58 = .ok (.goto (-38), 3) := by decide +kernel
theorem dX12_isShut_61 : decode cX12_isShut 61 = .ok (.iinc 3 1, 3) := by decide +kernel
theorem dX12_isShut_64 : decode cX12_isShut 64 = .ok (.goto (-55), 3) := by decide +kernel
theorem dX12_isShut_67 : decode cX12_isShut 67 = .ok (.iload_n 2, 1) := by decide +kernel
theorem dX12_isShut_68 : decode cX12_isShut 68 = .ok (.ireturn, 1) := by decide +kernel
theorem dX12_volume_0 : decode cX12_volume 0 = .ok (.aload_n 0, 1) := by decide +kernel
theorem dX12_volume_1 : decode cX12_volume 1 = .ok (.invokevirtual 83, 3) := by decide +kernel
theorem dX12_volume_4 : decode cX12_volume 4 = .ok (.ifCond .eq 15, 3) := by decide +kernel
theorem dX12_volume_7 : decode cX12_volume 7 = .ok (.aload_n 0, 1) := by decide +kernel
theorem dX12_volume_8 : decode cX12_volume 8 = .ok (.aload_n 0, 1) := by decide +kernel
theorem dX12_volume_9 : decode cX12_volume 9 = .ok (.iconst 0, 1) := by decide +kernel
theorem dX12_volume_10 : decode cX12_volume 10 = .ok (.invokevirtual 293, 3) := by decide +kernel
theorem dX12_volume_13 : decode cX12_volume 13 = .ok (.invokevirtual 394, 3) := by decide +kernel
theorem dX12_volume_16 : decode cX12_volume 16 = .ok (.ifCond .ne 7, 3) := by decide +kernel
theorem dX12_volume_19 : decode cX12_volume 19 = .ok (.ldc2_w 397, 3) := by decide +kernel
theorem dX12_volume_22 : decode cX12_volume 22 = .ok (.lreturn, 1) := by decide +kernel
theorem dX12_volume_23 : decode cX12_volume 23 = .ok (.lconst 0, 1) := by decide +kernel
theorem dX12_volume_24 : decode cX12_volume 24 = .ok (.lstore_n 1, 1) := by decide +kernel
theorem dX12_volume_25 : decode cX12_volume 25 = .ok (.iconst 0, 1) := by decide +kernel
theorem dX12_volume_26 : decode cX12_volume 26 = .ok (.istore_n 3, 1) := by decide +kernel
theorem dX12_volume_27 : decode cX12_volume 27 = .ok (.iload_n 3, 1) := by decide +kernel
theorem dX12_volume_28 : decode cX12_volume 28 = .ok (.aload_n 0, 1) := by decide +kernel
theorem dX12_volume_29 : decode cX12_volume 29 = .ok (.invokevirtual 83, 3) := by decide +kernel
theorem dX12_volume_32 : decode cX12_volume 32 = .ok (.if_icmp .ge 69, 3) := by decide +kernel
theorem dX12_volume_35 : decode cX12_volume 35 = .ok (.iconst 3, 1) := by decide +kernel
theorem dX12_volume_36 : decode cX12_volume 36 = .ok (.iload_n 3, 1) := by decide +kernel
theorem dX12_volume_37 : decode cX12_volume 37 = .ok (.imul, 1) := by decide +kernel
theorem dX12_volume_38 : decode cX12_volume 38 = .ok (.aload_n 0, 1) := by decide +kernel
theorem dX12_volume_39 : decode cX12_volume 39 = .ok (.getfield 65, 3) := by decide +kernel
theorem dX12_volume_42 : decode cX12_volume 42 = .ok (.iload_n 3, 1) := by decide +kernel
theorem dX12_volume_43 : decode cX12_volume 43 = .ok (.iaload, 1) := by decide +kernel
theorem dX12_volume_44 : decode cX12_volume 44 = .ok (.iadd, 1) := by decide +kernel
theorem dX12_volume_45 : decode cX12_volume 45 = .ok (.istore 4, 2) := by decide +kernel
theorem dX12_volume_47 : decode cX12_volume 47 = .ok (.lload_n 1, 1) := by decide +kernel
theorem dX12_volume_48 : decode cX12_volume 48 = .ok (.aload_n 0, 1) := by decide +kernel
theorem dX12_volume_49 : decode cX12_volume 49 = .ok (.iload_n 3, 1) := by decide +kernel
theorem dX12_volume_50 : decode cX12_volume 50 = .ok (.invokevirtual 302, 3) := by decide +kernel
theorem dX12_volume_53 : decode cX12_volume 53 = .ok (.ifCond .eq 7, 3) := by decide +kernel
theorem dX12_volume_56 : decode cX12_volume 56 = .ok (.lconst 0, 1) := by decide +kernel
theorem dX12_volume_57 : decode cX12_volume 57 = .ok (.goto 36, 3) := by decide +kernel
theorem dX12_volume_60 : decode cX12_volume 60 = .ok (.aload_n 0, 1) := by decide +kernel
theorem dX12_volume_61 : decode cX12_volume 61 = .ok (.getfield 32, 3) := by decide +kernel
theorem dX12_volume_64 : decode cX12_volume 64 = .ok (.iload_n 3, 1) := by decide +kernel
theorem dX12_volume_65 : decode cX12_volume 65 = .ok (.iaload, 1) := by decide +kernel
theorem dX12_volume_66 : decode cX12_volume 66 = .ok (.i2l, 1) := by decide +kernel
theorem dX12_volume_67 : decode cX12_volume 67 = .ok (.aload_n 0, 1) := by decide +kernel
theorem dX12_volume_68 : decode cX12_volume 68 = .ok (.getfield 35, 3) := by decide +kernel
theorem dX12_volume_71 : decode cX12_volume 71 = .ok (.iload_n 3, 1) := by decide +kernel
theorem dX12_volume_72 : decode cX12_volume 72 = .ok (.iaload, 1) := by decide +kernel
theorem dX12_volume_73 : decode cX12_volume 73 = .ok (.i2l, 1) := by decide +kernel
theorem dX12_volume_74 : decode cX12_volume 74 = .ok (.lmul, 1) := by decide +kernel
theorem dX12_volume_75 : decode cX12_volume 75 = .ok (.aload_n 0, 1) := by decide +kernel
theorem dX12_volume_76 : decode cX12_volume 76 = .ok (.getfield 59, 3) := by decide +kernel
theorem dX12_volume_79 : decode cX12_volume 79 = .ok (.iload 4, 2) := by decide +kernel
theorem dX12_volume_81 : decode cX12_volume 81 = .ok (.iaload, 1) := by decide +kernel
theorem dX12_volume_82 : decode cX12_volume 82 = .ok (.i2l, 1) := by decide +kernel
theorem dX12_volume_83 : decode cX12_volume 83 = .ok (.lmul, 1) := by decide +kernel
theorem dX12_volume_84 : decode cX12_volume 84 = .ok (.aload_n 0, 1) := by decide +kernel
theorem dX12_volume_85 : decode cX12_volume 85 = .ok (.getfield 56, 3) := by decide +kernel
theorem dX12_volume_88 : decode cX12_volume 88 = .ok (.iload 4, 2) := by decide +kernel
theorem dX12_volume_90 : decode cX12_volume 90 = .ok (.iaload, 1) := by decide +kernel
theorem dX12_volume_91 : decode cX12_volume 91 = .ok (.i2l, 1) := by decide +kernel
theorem dX12_volume_92 : decode cX12_volume 92 = .ok (.lmul, 1) := by decide +kernel
theorem dX12_volume_93 : decode cX12_volume 93 = .ok (.ladd, 1) := by decide +kernel
theorem dX12_volume_94 : decode cX12_volume 94 = .ok (.lstore_n 1, 1) := by decide +kernel
theorem dX12_volume_95 : decode cX12_volume 95 = .ok (.iinc 3 1, 3) := by decide +kernel
theorem dX12_volume_98 : decode cX12_volume 98 = .ok (.goto (-71), 3) := by decide +kernel
theorem dX12_volume_101 : decode cX12_volume 101 = .ok (.lload_n 1, 1) := by decide +kernel
theorem dX12_volume_102 : decode cX12_volume 102 = .ok (.lconst 0, 1) := by decide +kernel
theorem dX12_volume_103 : decode cX12_volume 103 = .ok (.lcmp, 1) := by decide +kernel
theorem dX12_volume_104 : decode cX12_volume 104 = .ok (.ifCond .ge 8, 3) := by decide +kernel
theorem dX12_volume_107 : decode cX12_volume 107 = .ok (.lload_n 1, 1) := by decide +kernel
theorem dX12_volume_108 : decode cX12_volume 108 = .ok (.lneg, 1) := by decide +kernel
theorem dX12_volume_109 : decode cX12_volume 109 = .ok (.goto 4, 3) := by decide +kernel
theorem dX12_volume_112 : decode cX12_volume 112 = .ok (.lload_n 1, 1) := by decide +kernel
theorem dX12_volume_113 : decode cX12_volume 113 = .ok (.ldc2_w 399, 3) := by decide +kernel
theorem dX12_volume_116 : decode cX12_volume 116 = .ok (.ldiv, 1) := by decide +kernel
theorem dX12_volume_117 : decode cX12_volume 117 = .ok (.lreturn, 1) := by decide +kernel
theorem dX12_leastTolerance_0 : decode cX12_leastTolerance 0 = .ok (.iconst 0, 1) := by decide +kernel
theorem dX12_leastTolerance_1 : decode cX12_leastTolerance 1 = .ok (.istore_n 1, 1) := by decide +kernel
theorem dX12_leastTolerance_2 : decode cX12_leastTolerance 2 = .ok (.iload_n 1, 1) := by decide +kernel
theorem dX12_leastTolerance_3 : decode cX12_leastTolerance 3 = .ok (.bipush 20, 2) := by decide +kernel
theorem dX12_leastTolerance_5 : decode cX12_leastTolerance 5 = .ok (.if_icmp .gt 69, 3) := by decide +kernel
theorem dX12_leastTolerance_8 : decode cX12_leastTolerance 8 = .ok (.aload_n 0, 1) := by decide +kernel
theorem dX12_leastTolerance_9 : decode cX12_leastTolerance 9 = .ok (.iload_n 1, 1) := by decide +kernel
theorem dX12_leastTolerance_10 : decode cX12_leastTolerance 10 = .ok (.invokevirtual 394, 3) := by decide +kernel
theorem dX12_leastTolerance_13 : decode cX12_leastTolerance 13 = .ok (.istore_n 2, 1) := by decide +kernel
theorem dX12_leastTolerance_14 : decode cX12_leastTolerance 14 = .ok (.iconst 0, 1) := by decide +kernel
theorem dX12_leastTolerance_15 : decode cX12_leastTolerance 15 = .ok (.istore_n 3, 1) := by decide +kernel
theorem dX12_leastTolerance_16 : decode cX12_leastTolerance 16 = .ok (.iload_n 3, 1) := by decide +kernel
theorem dX12_leastTolerance_17 : decode cX12_leastTolerance 17 = .ok (.aload_n 0, 1) := by decide +kernel
theorem dX12_leastTolerance_18 : decode cX12_leastTolerance 18 = .ok (.invokevirtual 83, 3) := by decide +kernel
theorem dX12_leastTolerance_21 : decode cX12_leastTolerance 21 = .ok (.if_icmp .ge 41, 3) := by decide +kernel
theorem dX12_leastTolerance_24 : decode cX12_leastTolerance 24 = .ok (.iload_n 2, 1) := by decide +kernel
theorem dX12_leastTolerance_25 : decode cX12_leastTolerance 25 = .ok (.ifCond .eq 29, 3) := by decide +kernel
theorem dX12_leastTolerance_28 : decode cX12_leastTolerance 28 = .ok (.aload_n 0, 1) := by decide +kernel
theorem dX12_leastTolerance_29 : decode cX12_leastTolerance 29 = .ok (.iload_n 3, 1) := by decide +kernel
theorem dX12_leastTolerance_30 : decode cX12_leastTolerance 30 = .ok (.invokevirtual 302, 3) := by decide +kernel
theorem dX12_leastTolerance_33 : decode cX12_leastTolerance 33 = .ok (.ifCond .eq 17, 3) := by decide +kernel
theorem dX12_leastTolerance_36 : decode cX12_leastTolerance 36 = .ok (.aload_n 0, 1) := by decide +kernel
theorem dX12_leastTolerance_37 : decode cX12_leastTolerance 37 = .ok (.iload_n 3, 1) := by decide +kernel
theorem dX12_leastTolerance_38 : decode cX12_leastTolerance 38 = .ok (.iload_n 1, 1) := by decide +kernel
theorem dX12_leastTolerance_39 : decode cX12_leastTolerance 39 = .ok (.invokevirtual 332, 3) := by decide +kernel
theorem dX12_leastTolerance_42 : decode cX12_leastTolerance 42 = .ok (.aload_n 0, 1) := by decide +kernel
theorem dX12_leastTolerance_43 : decode cX12_leastTolerance 43 = .ok (.iconst 3, 1) := by decide +kernel
theorem dX12_leastTolerance_44 : decode cX12_leastTolerance 44 = .ok (.invokevirtual 293, 3) := by decide +kernel
theorem dX12_leastTolerance_47 : decode cX12_leastTolerance 47 = .ok (.if_icmp .lt 7, 3) := by decide +kernel
theorem dX12_leastTolerance_50 : decode cX12_leastTolerance 50 = .ok (.iconst 1, 1) := by decide +kernel
theorem dX12_leastTolerance_51 : decode cX12_leastTolerance 51 = .ok (.goto 4, 3) := by decide +kernel
theorem dX12_leastTolerance_54 : decode cX12_leastTolerance 54 = .ok (.iconst 0, 1) := by decide +kernel
theorem dX12_leastTolerance_55 : decode cX12_leastTolerance 55 = .ok (.istore_n 2, 1) := by decide +kernel
theorem dX12_leastTolerance_56 : decode cX12_leastTolerance 56 = .ok (.iinc 3 1, 3) := by decide +kernel
theorem dX12_leastTolerance_59 : decode cX12_leastTolerance 59 = .ok (.goto (-43), 3) := by decide +kernel
theorem dX12_leastTolerance_62 : decode cX12_leastTolerance 62 = .ok (.iload_n 2, 1) := by decide +kernel
theorem dX12_leastTolerance_63 : decode cX12_leastTolerance 63 = .ok (.ifCond .eq 5, 3) := by decide +kernel
theorem dX12_leastTolerance_66 : decode cX12_leastTolerance 66 = .ok (.iload_n 1, 1) := by decide +kernel
theorem dX12_leastTolerance_67 : decode cX12_leastTolerance 67 = .ok (.ireturn, 1) := by decide +kernel
theorem dX12_leastTolerance_68 : decode cX12_leastTolerance 68 = .ok (.iinc 1 1, 3) := by decide +kernel
theorem dX12_leastTolerance_71 : decode cX12_leastTolerance 71 = .ok (.goto (-69), 3) := by decide +kernel
theorem dX12_leastTolerance_74 : decode cX12_leastTolerance 74 = .ok (.bipush (-9), 2) := by decide +kernel
theorem dX12_leastTolerance_76 : decode cX12_leastTolerance 76 = .ok (.ireturn, 1) := by decide +kernel
theorem dX12_crossingsBy_0 : decode cX12_crossingsBy 0 = .ok (.aload_n 0, 1) := by decide +kernel
theorem dX12_crossingsBy_1 : decode cX12_crossingsBy 1 = .ok (.iload_n 1, 1) := by decide +kernel
theorem dX12_crossingsBy_2 : decode cX12_crossingsBy 2 = .ok (.invokevirtual 246, 3) := by decide +kernel
theorem dX12_crossingsBy_5 : decode cX12_crossingsBy 5 = .ok (.iconst 0, 1) := by decide +kernel
theorem dX12_crossingsBy_6 : decode cX12_crossingsBy 6 = .ok (.istore_n 2, 1) := by decide +kernel
theorem dX12_crossingsBy_7 : decode cX12_crossingsBy 7 = .ok (.iconst 0, 1) := by decide +kernel
theorem dX12_crossingsBy_8 : decode cX12_crossingsBy 8 = .ok (.istore_n 3, 1) := by decide +kernel
theorem dX12_crossingsBy_9 : decode cX12_crossingsBy 9 = .ok (.iload_n 3, 1) := by decide +kernel
theorem dX12_crossingsBy_10 : decode cX12_crossingsBy 10 = .ok (.aload_n 0, 1) := by decide +kernel
theorem dX12_crossingsBy_11 : decode cX12_crossingsBy 11 = .ok (.invokevirtual 83, 3) := by decide +kernel
theorem dX12_crossingsBy_14 : decode cX12_crossingsBy 14 = .ok (.if_icmp .ge 52, 3) := by decide +kernel
theorem dX12_crossingsBy_17 : decode cX12_crossingsBy 17 = .ok (.iload_n 3, 1) := by decide +kernel
theorem dX12_crossingsBy_18 : decode cX12_crossingsBy 18 = .ok (.iconst 1, 1) := by decide +kernel
theorem dX12_crossingsBy_19 : decode cX12_crossingsBy 19 = .ok (.iadd, 1) := by decide +kernel
theorem dX12_crossingsBy_20 : decode cX12_crossingsBy 20 = .ok (.istore 4, 2) := by decide +kernel
theorem dX12_crossingsBy_22 : decode cX12_crossingsBy 22 = .ok (.iload 4, 2) := by decide +kernel
theorem dX12_crossingsBy_24 : decode cX12_crossingsBy 24 = .ok (.aload_n 0, 1) := by decide +kernel
theorem dX12_crossingsBy_25 : decode cX12_crossingsBy 25 = .ok (.invokevirtual 83, 3) := by decide +kernel
theorem dX12_crossingsBy_28 : decode cX12_crossingsBy 28 = .ok (.if_icmp .ge 32, 3) := by decide +kernel
theorem dX12_crossingsBy_31 : decode cX12_crossingsBy 31 = .ok (.iload_n 2, 1) := by decide +kernel
theorem dX12_crossingsBy_32 : decode cX12_crossingsBy 32 = .ok (.aload_n 0, 1) := by decide +kernel
theorem dX12_crossingsBy_33 : decode cX12_crossingsBy 33 = .ok (.iload_n 3, 1) := by decide +kernel
theorem dX12_crossingsBy_34 : decode cX12_crossingsBy 34 = .ok (.iload 4, 2) := by decide +kernel
theorem dX12_crossingsBy_36 : decode cX12_crossingsBy 36 = .ok (.aload_n 0, 1) := by decide +kernel
theorem dX12_crossingsBy_37 : decode cX12_crossingsBy 37 = .ok (.iconst 0, 1) := by decide +kernel
theorem dX12_crossingsBy_38 : decode cX12_crossingsBy 38 = .ok (.invokevirtual 293, 3) := by decide +kernel
theorem dX12_crossingsBy_41 : decode cX12_crossingsBy 41 = .ok (.invokevirtual 335, 3) := by decide +kernel
theorem dX12_crossingsBy_44 : decode cX12_crossingsBy 44 = .ok (.ifCond .le 7, 3) := by decide +kernel
theorem dX12_crossingsBy_47 : decode cX12_crossingsBy 47 = .ok (.iconst 1, 1) := by decide +kernel
theorem dX12_crossingsBy_48 : decode cX12_crossingsBy 48 = .ok (.goto 4, 3) := by decide +kernel
theorem dX12_crossingsBy_51 : decode cX12_crossingsBy 51 = .ok (.iconst 0, 1) := by decide +kernel
theorem dX12_crossingsBy_52 : decode cX12_crossingsBy 52 = .ok (.iadd, 1) := by decide +kernel
theorem dX12_crossingsBy_53 : decode cX12_crossingsBy 53 = .ok (.istore_n 2, 1) := by decide +kernel
theorem dX12_crossingsBy_54 : decode cX12_crossingsBy 54 = .ok (.iinc 4 1, 3) := by decide +kernel
theorem dX12_crossingsBy_57 : decode cX12_crossingsBy 57 = .ok (.goto (-35), 3) := by decide +kernel
theorem dX12_crossingsBy_60 : decode cX12_crossingsBy 60 = .ok (.iinc 3 1, 3) := by decide +kernel
theorem dX12_crossingsBy_63 : decode cX12_crossingsBy 63 = .ok (.goto (-54), 3) := by decide +kernel
theorem dX12_crossingsBy_66 : decode cX12_crossingsBy 66 = .ok (.iload_n 2, 1) := by decide +kernel
theorem dX12_crossingsBy_67 : decode cX12_crossingsBy 67 = .ok (.ireturn, 1) := by decide +kernel
theorem dX12_crossings_0 : decode cX12_crossings 0 = .ok (.iload_n 1, 1) := by decide +kernel
theorem dX12_crossings_1 : decode cX12_crossings 1 = .ok (.ifCond .lt 19, 3) := by decide +kernel
theorem dX12_crossings_4 : decode cX12_crossings 4 = .ok (.iload_n 1, 1) := by decide +kernel
theorem dX12_crossings_5 : decode cX12_crossings 5 = .ok (.aload_n 0, 1) := by decide +kernel
theorem dX12_crossings_6 : decode cX12_crossings 6 = .ok (.invokevirtual 83, 3) := by decide +kernel
theorem dX12_crossings_9 : decode cX12_crossings 9 = .ok (.ishr, 1) := by decide +kernel
theorem dX12_crossings_10 : decode cX12_crossings 10 = .ok (.ifCond .ne 10, 3) := by decide +kernel
theorem dX12_crossings_13 : decode cX12_crossings 13 = .ok (.iload_n 1, 1) := by decide +kernel
theorem dX12_crossings_14 : decode cX12_crossings 14 = .ok (.iconst 1, 1) := by decide +kernel
theorem dX12_crossings_15 : decode cX12_crossings 15 = .ok (.iand, 1) := by decide +kernel
theorem dX12_crossings_16 : decode cX12_crossings 16 = .ok (.iconst 1, 1) := by decide +kernel
theorem dX12_crossings_17 : decode cX12_crossings 17 = .ok (.if_icmp .ne 5, 3) := by decide +kernel
theorem dX12_crossings_20 : decode cX12_crossings 20 = .ok (.iconst (-1), 1) := by decide +kernel
theorem dX12_crossings_21 : decode cX12_crossings 21 = .ok (.ireturn, 1) := by decide +kernel
theorem dX12_crossings_22 : decode cX12_crossings 22 = .ok (.aload_n 0, 1) := by decide +kernel
theorem dX12_crossings_23 : decode cX12_crossings 23 = .ok (.iload_n 1, 1) := by decide +kernel
theorem dX12_crossings_24 : decode cX12_crossings 24 = .ok (.invokevirtual 401, 3) := by decide +kernel
theorem dX12_crossings_27 : decode cX12_crossings 27 = .ok (.ireturn, 1) := by decide +kernel
theorem dX12_foldStep_0 : decode cX12_foldStep 0 = .ok (.iload_n 1, 1) := by decide +kernel
theorem dX12_foldStep_1 : decode cX12_foldStep 1 = .ok (.ifCond .ge 5, 3) := by decide +kernel
theorem dX12_foldStep_4 : decode cX12_foldStep 4 = .ok (.iconst (-1), 1) := by decide +kernel
theorem dX12_foldStep_5 : decode cX12_foldStep 5 = .ok (.ireturn, 1) := by decide +kernel
theorem dX12_foldStep_6 : decode cX12_foldStep 6 = .ok (.iconst 0, 1) := by decide +kernel
theorem dX12_foldStep_7 : decode cX12_foldStep 7 = .ok (.istore_n 2, 1) := by decide +kernel
theorem dX12_foldStep_8 : decode cX12_foldStep 8 = .ok (.iconst 1, 1) := by decide +kernel
theorem dX12_foldStep_9 : decode cX12_foldStep 9 = .ok (.istore_n 3, 1) := by decide +kernel
theorem dX12_foldStep_10 : decode cX12_foldStep 10 = .ok (.iload_n 3, 1) := by decide +kernel
theorem dX12_foldStep_11 : decode cX12_foldStep 11 = .ok (.aload_n 0, 1) := by decide +kernel
theorem dX12_foldStep_12 : decode cX12_foldStep 12 = .ok (.invokevirtual 83, 3) := by decide +kernel
theorem dX12_foldStep_15 : decode cX12_foldStep 15 = .ok (.if_icmp .ge 28, 3) := by decide +kernel
theorem dX12_foldStep_18 : decode cX12_foldStep 18 = .ok (.iload_n 2, 1) := by decide +kernel
theorem dX12_foldStep_19 : decode cX12_foldStep 19 = .ok (.aload_n 0, 1) := by decide +kernel
theorem dX12_foldStep_20 : decode cX12_foldStep 20 = .ok (.iload_n 3, 1) := by decide +kernel
theorem dX12_foldStep_21 : decode cX12_foldStep 21 = .ok (.iconst 5, 1) := by decide +kernel
theorem dX12_foldStep_22 : decode cX12_foldStep 22 = .ok (.invokevirtual 91, 3) := by decide +kernel
theorem dX12_foldStep_25 : decode cX12_foldStep 25 = .ok (.ifCond .eq 9, 3) := by decide +kernel
theorem dX12_foldStep_28 : decode cX12_foldStep 28 = .ok (.iconst 1, 1) := by decide +kernel
theorem dX12_foldStep_29 : decode cX12_foldStep 29 = .ok (.iload_n 3, 1) := by decide +kernel
theorem dX12_foldStep_30 : decode cX12_foldStep 30 = .ok (.ishl, 1) := by decide +kernel
theorem dX12_foldStep_31 : decode cX12_foldStep 31 = .ok (.goto 4, 3) := by decide +kernel
theorem dX12_foldStep_34 : decode cX12_foldStep 34 = .ok (.iconst 0, 1) := by decide +kernel
theorem dX12_foldStep_35 : decode cX12_foldStep 35 = .ok (.ior, 1) := by decide +kernel
theorem dX12_foldStep_36 : decode cX12_foldStep 36 = .ok (.istore_n 2, 1) := by decide +kernel
theorem dX12_foldStep_37 : decode cX12_foldStep 37 = .ok (.iinc 3 1, 3) := by decide +kernel
theorem dX12_foldStep_40 : decode cX12_foldStep 40 = .ok (.goto (-30), 3) := by decide +kernel
theorem dX12_foldStep_43 : decode cX12_foldStep 43 = .ok (.iload_n 1, 1) := by decide +kernel
theorem dX12_foldStep_44 : decode cX12_foldStep 44 = .ok (.iload_n 2, 1) := by decide +kernel
theorem dX12_foldStep_45 : decode cX12_foldStep 45 = .ok (.invokestatic 404, 3) := by decide +kernel
theorem dX12_foldStep_48 : decode cX12_foldStep 48 = .ok (.if_icmp .lt 6, 3) := by decide +kernel
theorem dX12_foldStep_51 : decode cX12_foldStep 51 = .ok (.bipush (-9), 2) := by decide +kernel
theorem dX12_foldStep_53 : decode cX12_foldStep 53 = .ok (.ireturn, 1) := by decide +kernel
theorem dX12_foldStep_54 : decode cX12_foldStep 54 = .ok (.iload_n 2, 1) := by decide +kernel
theorem dX12_foldStep_55 : decode cX12_foldStep 55 = .ok (.istore_n 3, 1) := by decide +kernel
theorem dX12_foldStep_56 : decode cX12_foldStep 56 = .ok (.iload_n 3, 1) := by decide +kernel
theorem dX12_foldStep_57 : decode cX12_foldStep 57 = .ok (.ifCond .lt 114, 3) := by decide +kernel
theorem dX12_foldStep_60 : decode cX12_foldStep 60 = .ok (.aload_n 0, 1) := by decide +kernel
theorem dX12_foldStep_61 : decode cX12_foldStep 61 = .ok (.getfield 77, 3) := by decide +kernel
theorem dX12_foldStep_64 : decode cX12_foldStep 64 = .ok (.iload_n 3, 1) := by decide +kernel
theorem dX12_foldStep_65 : decode cX12_foldStep 65 = .ok (.iload_n 3, 1) := by decide +kernel
theorem dX12_foldStep_66 : decode cX12_foldStep 66 = .ok (.iload_n 2, 1) := by decide +kernel
theorem dX12_foldStep_67 : decode cX12_foldStep 67 = .ok (.if_icmp .ne 7, 3) := by decide +kernel
theorem dX12_foldStep_70 : decode cX12_foldStep 70 = .ok (.iconst 1, 1) := by decide +kernel
theorem dX12_foldStep_71 : decode cX12_foldStep 71 = .ok (.goto 4, 3) := by decide +kernel
theorem dX12_foldStep_74 : decode cX12_foldStep 74 = .ok (.iconst 0, 1) := by decide +kernel
theorem dX12_foldStep_75 : decode cX12_foldStep 75 = .ok (.bastore, 1) := by decide +kernel
theorem dX12_foldStep_76 : decode cX12_foldStep 76 = .ok (.iconst 1, 1) := by decide +kernel
theorem dX12_foldStep_77 : decode cX12_foldStep 77 = .ok (.istore 4, 2) := by decide +kernel
theorem dX12_foldStep_79 : decode cX12_foldStep 79 = .ok (.iload 4, 2) := by decide +kernel
theorem dX12_foldStep_81 : decode cX12_foldStep 81 = .ok (.aload_n 0, 1) := by decide +kernel
theorem dX12_foldStep_82 : decode cX12_foldStep 82 = .ok (.invokevirtual 83, 3) := by decide +kernel
theorem dX12_foldStep_85 : decode cX12_foldStep 85 = .ok (.if_icmp .ge 80, 3) := by decide +kernel
theorem dX12_foldStep_88 : decode cX12_foldStep 88 = .ok (.iload_n 3, 1) := by decide +kernel
theorem dX12_foldStep_89 : decode cX12_foldStep 89 = .ok (.iload_n 2, 1) := by decide +kernel
theorem dX12_foldStep_90 : decode cX12_foldStep 90 = .ok (.iconst (-1), 1) := by decide +kernel
theorem dX12_foldStep_91 : decode cX12_foldStep 91 = .ok (.ixor, 1) := by decide +kernel
theorem dX12_foldStep_92 : decode cX12_foldStep 92 = .ok (.iand, 1) := by decide +kernel
theorem dX12_foldStep_93 : decode cX12_foldStep 93 = .ok (.ifCond .ne 72, 3) := by decide +kernel
theorem dX12_foldStep_96 : decode cX12_foldStep 96 = .ok (.iload_n 3, 1) := by decide +kernel
theorem dX12_foldStep_97 : decode cX12_foldStep 97 = .ok (.iconst 1, 1) := by decide +kernel
theorem dX12_foldStep_98 : decode cX12_foldStep 98 = .ok (.iload 4, 2) := by decide +kernel
theorem dX12_foldStep_100 : decode cX12_foldStep 100 = .ok (.ishl, 1) := by decide +kernel
theorem dX12_foldStep_101 : decode cX12_foldStep 101 = .ok (.ior, 1) := by decide +kernel
theorem dX12_foldStep_102 : decode cX12_foldStep 102 = .ok (.istore 5, 2) := by decide +kernel
theorem dX12_foldStep_104 : decode cX12_foldStep 104 = .ok (.aload_n 0, 1) := by decide +kernel
theorem dX12_foldStep_105 : decode cX12_foldStep 105 = .ok (.getfield 77, 3) := by decide +kernel
theorem dX12_foldStep_108 : decode cX12_foldStep 108 = .ok (.iload_n 3, 1) := by decide +kernel
theorem dX12_foldStep_109 : decode cX12_foldStep 109 = .ok (.aload_n 0, 1) := by decide +kernel
theorem dX12_foldStep_110 : decode cX12_foldStep 110 = .ok (.getfield 77, 3) := by decide +kernel
theorem dX12_foldStep_113 : decode cX12_foldStep 113 = .ok (.iload_n 3, 1) := by decide +kernel
theorem dX12_foldStep_114 : decode cX12_foldStep 114 = .ok (.baload, 1) := by decide +kernel
theorem dX12_foldStep_115 : decode cX12_foldStep 115 = .ok (.ifCond .ne 38, 3) := by decide +kernel
theorem dX12_foldStep_118 : decode cX12_foldStep 118 = .ok (.iload_n 2, 1) := by decide +kernel
theorem dX12_foldStep_119 : decode cX12_foldStep 119 = .ok (.iload 4, 2) := by decide +kernel
theorem dX12_foldStep_121 : decode cX12_foldStep 121 = .ok (.ishr, 1) := by decide +kernel
theorem dX12_foldStep_122 : decode cX12_foldStep 122 = .ok (.iconst 1, 1) := by decide +kernel
theorem dX12_foldStep_123 : decode cX12_foldStep 123 = .ok (.iand, 1) := by decide +kernel
theorem dX12_foldStep_124 : decode cX12_foldStep 124 = .ok (.iconst 1, 1) := by decide +kernel
theorem dX12_foldStep_125 : decode cX12_foldStep 125 = .ok (.if_icmp .ne 32, 3) := by decide +kernel
theorem dX12_foldStep_128 : decode cX12_foldStep 128 = .ok (.iload 5, 2) := by decide +kernel
theorem dX12_foldStep_130 : decode cX12_foldStep 130 = .ok (.iload_n 3, 1) := by decide +kernel
theorem dX12_foldStep_131 : decode cX12_foldStep 131 = .ok (.if_icmp .eq 26, 3) := by decide +kernel
theorem dX12_foldStep_134 : decode cX12_foldStep 134 = .ok (.aload_n 0, 1) := by decide +kernel
theorem dX12_foldStep_135 : decode cX12_foldStep 135 = .ok (.getfield 77, 3) := by decide +kernel
theorem dX12_foldStep_138 : decode cX12_foldStep 138 = .ok (.iload 5, 2) := by decide +kernel
theorem dX12_foldStep_140 : decode cX12_foldStep 140 = .ok (.baload, 1) := by decide +kernel
theorem dX12_foldStep_141 : decode cX12_foldStep 141 = .ok (.ifCond .eq 16, 3) := by decide +kernel
theorem dX12_foldStep_144 : decode cX12_foldStep 144 = .ok (.aload_n 0, 1) := by decide +kernel
theorem dX12_foldStep_145 : decode cX12_foldStep 145 = .ok (.iload 5, 2) := by decide +kernel
theorem dX12_foldStep_147 : decode cX12_foldStep 147 = .ok (.invokevirtual 401, 3) := by decide +kernel
theorem dX12_foldStep_150 : decode cX12_foldStep 150 = .ok (.ifCond .ne 7, 3) := by decide +kernel
theorem dX12_foldStep_153 : decode cX12_foldStep 153 = .ok (.iconst 1, 1) := by decide +kernel
theorem dX12_foldStep_154 : decode cX12_foldStep 154 = .ok (.goto 4, 3) := by decide +kernel
theorem dX12_foldStep_157 : decode cX12_foldStep 157 = .ok (.iconst 0, 1) := by decide +kernel
theorem dX12_foldStep_158 : decode cX12_foldStep 158 = .ok (.bastore, 1) := by decide +kernel
theorem dX12_foldStep_159 : decode cX12_foldStep 159 = .ok (.iinc 4 1, 3) := by decide +kernel
theorem dX12_foldStep_162 : decode cX12_foldStep 162 = .ok (.goto (-83), 3) := by decide +kernel
theorem dX12_foldStep_165 : decode cX12_foldStep 165 = .ok (.iinc 3 (-1), 3) := by decide +kernel
theorem dX12_foldStep_168 : decode cX12_foldStep 168 = .ok (.goto (-112), 3) := by decide +kernel
theorem dX12_foldStep_171 : decode cX12_foldStep 171 = .ok (.iconst 0, 1) := by decide +kernel
theorem dX12_foldStep_172 : decode cX12_foldStep 172 = .ok (.istore_n 3, 1) := by decide +kernel
theorem dX12_foldStep_173 : decode cX12_foldStep 173 = .ok (.bipush (-9), 2) := by decide +kernel
theorem dX12_foldStep_175 : decode cX12_foldStep 175 = .ok (.istore 4, 2) := by decide +kernel
theorem dX12_foldStep_177 : decode cX12_foldStep 177 = .ok (.iconst 0, 1) := by decide +kernel
theorem dX12_foldStep_178 : decode cX12_foldStep 178 = .ok (.istore 5, 2) := by decide +kernel
theorem dX12_foldStep_180 : decode cX12_foldStep 180 = .ok (.iload 5, 2) := by decide +kernel
theorem dX12_foldStep_182 : decode cX12_foldStep 182 = .ok (.iload_n 1, 1) := by decide +kernel
theorem dX12_foldStep_183 : decode cX12_foldStep 183 = .ok (.if_icmp .gt 122, 3) := by decide +kernel
theorem dX12_foldStep_186 : decode cX12_foldStep 186 = .ok (.bipush (-9), 2) := by decide +kernel
theorem dX12_foldStep_188 : decode cX12_foldStep 188 = .ok (.istore 4, 2) := by decide +kernel
theorem dX12_foldStep_190 : decode cX12_foldStep 190 = .ok (.aload_n 0, 1) := by decide +kernel
theorem dX12_foldStep_191 : decode cX12_foldStep 191 = .ok (.invokevirtual 83, 3) := by decide +kernel
theorem dX12_foldStep_194 : decode cX12_foldStep 194 = .ok (.iconst 1, 1) := by decide +kernel
theorem dX12_foldStep_195 : decode cX12_foldStep 195 = .ok (.isub, 1) := by decide +kernel
theorem dX12_foldStep_196 : decode cX12_foldStep 196 = .ok (.istore 6, 2) := by decide +kernel
theorem dX12_foldStep_198 : decode cX12_foldStep 198 = .ok (.iload 6, 2) := by decide +kernel
theorem dX12_foldStep_200 : decode cX12_foldStep 200 = .ok (.ifCond .le 82, 3) := by decide +kernel
theorem dX12_foldStep_203 : decode cX12_foldStep 203 = .ok (.iload_n 3, 1) := by decide +kernel
theorem dX12_foldStep_204 : decode cX12_foldStep 204 = .ok (.iconst 1, 1) := by decide +kernel
theorem dX12_foldStep_205 : decode cX12_foldStep 205 = .ok (.iload 6, 2) := by decide +kernel
theorem dX12_foldStep_207 : decode cX12_foldStep 207 = .ok (.ishl, 1) := by decide +kernel
theorem dX12_foldStep_208 : decode cX12_foldStep 208 = .ok (.ior, 1) := by decide +kernel
theorem dX12_foldStep_209 : decode cX12_foldStep 209 = .ok (.istore 7, 2) := by decide +kernel
theorem dX12_foldStep_211 : decode cX12_foldStep 211 = .ok (.iload_n 2, 1) := by decide +kernel
theorem dX12_foldStep_212 : decode cX12_foldStep 212 = .ok (.iload 6, 2) := by decide +kernel
theorem dX12_foldStep_214 : decode cX12_foldStep 214 = .ok (.ishr, 1) := by decide +kernel
theorem dX12_foldStep_215 : decode cX12_foldStep 215 = .ok (.iconst 1, 1) := by decide +kernel
theorem dX12_foldStep_216 : decode cX12_foldStep 216 = .ok (.iand, 1) := by decide +kernel
theorem dX12_foldStep_217 : decode cX12_foldStep 217 = .ok (.iconst 1, 1) := by decide +kernel
theorem dX12_foldStep_218 : decode cX12_foldStep 218 = .ok (.if_icmp .ne 32, 3) := by decide +kernel
theorem dX12_foldStep_221 : decode cX12_foldStep 221 = .ok (.iload 7, 2) := by decide +kernel
theorem dX12_foldStep_223 : decode cX12_foldStep 223 = .ok (.iload_n 3, 1) := by decide +kernel
theorem dX12_foldStep_224 : decode cX12_foldStep 224 = .ok (.if_icmp .eq 26, 3) := by decide +kernel
theorem dX12_foldStep_227 : decode cX12_foldStep 227 = .ok (.aload_n 0, 1) := by decide +kernel
theorem dX12_foldStep_228 : decode cX12_foldStep 228 = .ok (.getfield 77, 3) := by decide +kernel
theorem dX12_foldStep_231 : decode cX12_foldStep 231 = .ok (.iload 7, 2) := by decide +kernel
theorem dX12_foldStep_233 : decode cX12_foldStep 233 = .ok (.baload, 1) := by decide +kernel
theorem dX12_foldStep_234 : decode cX12_foldStep 234 = .ok (.ifCond .eq 16, 3) := by decide +kernel
theorem dX12_foldStep_237 : decode cX12_foldStep 237 = .ok (.aload_n 0, 1) := by decide +kernel
theorem dX12_foldStep_238 : decode cX12_foldStep 238 = .ok (.iload 7, 2) := by decide +kernel
theorem dX12_foldStep_240 : decode cX12_foldStep 240 = .ok (.invokevirtual 401, 3) := by decide +kernel
theorem dX12_foldStep_243 : decode cX12_foldStep 243 = .ok (.ifCond .ne 7, 3) := by decide +kernel
theorem dX12_foldStep_246 : decode cX12_foldStep 246 = .ok (.iconst 1, 1) := by decide +kernel
theorem dX12_foldStep_247 : decode cX12_foldStep 247 = .ok (.goto 4, 3) := by decide +kernel
theorem dX12_foldStep_250 : decode cX12_foldStep 250 = .ok (.iconst 0, 1) := by decide +kernel
theorem dX12_foldStep_251 : decode cX12_foldStep 251 = .ok (.istore 8, 2) := by decide +kernel
theorem dX12_foldStep_253 : decode cX12_foldStep 253 = .ok (.aload_n 0, 1) := by decide +kernel
theorem dX12_foldStep_254 : decode cX12_foldStep 254 = .ok (.getfield 77, 3) := by decide +kernel
theorem dX12_foldStep_257 : decode cX12_foldStep 257 = .ok (.iload_n 3, 1) := by decide +kernel
theorem dX12_foldStep_258 : decode cX12_foldStep 258 = .ok (.baload, 1) := by decide +kernel
theorem dX12_foldStep_259 : decode cX12_foldStep 259 = .ok (.ifCond .eq 13, 3) := by decide +kernel
theorem dX12_foldStep_262 : decode cX12_foldStep 262 = .ok (.iload 8, 2) := by decide +kernel
theorem dX12_foldStep_264 : decode cX12_foldStep 264 = .ok (.ifCond .eq 8, 3) := by decide +kernel
theorem dX12_foldStep_267 : decode cX12_foldStep 267 = .ok (.iload 6, 2) := by decide +kernel
theorem dX12_foldStep_269 : decode cX12_foldStep 269 = .ok (.goto 5, 3) := by decide +kernel
theorem dX12_foldStep_272 : decode cX12_foldStep 272 = .ok (.iload 4, 2) := by decide +kernel
theorem dX12_foldStep_274 : decode cX12_foldStep 274 = .ok (.istore 4, 2) := by decide +kernel
theorem dX12_foldStep_276 : decode cX12_foldStep 276 = .ok (.iinc 6 (-1), 3) := by decide +kernel
theorem dX12_foldStep_279 : decode cX12_foldStep 279 = .ok (.goto (-81), 3) := by decide +kernel
theorem dX12_foldStep_282 : decode cX12_foldStep 282 = .ok (.iload 4, 2) := by decide +kernel
theorem dX12_foldStep_284 : decode cX12_foldStep 284 = .ok (.bipush (-9), 2) := by decide +kernel
theorem dX12_foldStep_286 : decode cX12_foldStep 286 = .ok (.if_icmp .ne 6, 3) := by decide +kernel
theorem dX12_foldStep_289 : decode cX12_foldStep 289 = .ok (.bipush (-9), 2) := by decide +kernel
theorem dX12_foldStep_291 : decode cX12_foldStep 291 = .ok (.ireturn, 1) := by decide +kernel
theorem dX12_foldStep_292 : decode cX12_foldStep 292 = .ok (.iload_n 3, 1) := by decide +kernel
theorem dX12_foldStep_293 : decode cX12_foldStep 293 = .ok (.iconst 1, 1) := by decide +kernel
theorem dX12_foldStep_294 : decode cX12_foldStep 294 = .ok (.iload 4, 2) := by decide +kernel
theorem dX12_foldStep_296 : decode cX12_foldStep 296 = .ok (.ishl, 1) := by decide +kernel
theorem dX12_foldStep_297 : decode cX12_foldStep 297 = .ok (.ior, 1) := by decide +kernel
theorem dX12_foldStep_298 : decode cX12_foldStep 298 = .ok (.istore_n 3, 1) := by decide +kernel
theorem dX12_foldStep_299 : decode cX12_foldStep 299 = .ok (.iinc 5 1, 3) := by decide +kernel
theorem dX12_foldStep_302 : decode cX12_foldStep 302 = .ok (.goto (-122), 3) := by decide +kernel
theorem dX12_foldStep_305 : decode cX12_foldStep 305 = .ok (.iload 4, 2) := by decide +kernel
theorem dX12_foldStep_307 : decode cX12_foldStep 307 = .ok (.ireturn, 1) := by decide +kernel
theorem dX12_imageAt_0 : decode cX12_imageAt 0 = .ok (.aload_n 0, 1) := by decide +kernel
theorem dX12_imageAt_1 : decode cX12_imageAt 1 = .ok (.iload_n 1, 1) := by decide +kernel
theorem dX12_imageAt_2 : decode cX12_imageAt 2 = .ok (.invokevirtual 145, 3) := by decide +kernel
theorem dX12_imageAt_5 : decode cX12_imageAt 5 = .ok (.ifCond .eq 39, 3) := by decide +kernel
theorem dX12_imageAt_8 : decode cX12_imageAt 8 = .ok (.iload_n 2, 1) := by decide +kernel
theorem dX12_imageAt_9 : decode cX12_imageAt 9 = .ok (.sipush (-300), 3) := by decide +kernel
theorem dX12_imageAt_12 : decode cX12_imageAt 12 = .ok (.sipush 300, 3) := by decide +kernel
theorem dX12_imageAt_15 : decode cX12_imageAt 15 = .ok (.invokestatic 87, 3) := by decide +kernel
theorem dX12_imageAt_18 : decode cX12_imageAt 18 = .ok (.ifCond .eq 26, 3) := by decide +kernel
theorem dX12_imageAt_21 : decode cX12_imageAt 21 = .ok (.iload_n 3, 1) := by decide +kernel
theorem dX12_imageAt_22 : decode cX12_imageAt 22 = .ok (.sipush (-300), 3) := by decide +kernel
theorem dX12_imageAt_25 : decode cX12_imageAt 25 = .ok (.sipush 300, 3) := by decide +kernel
theorem dX12_imageAt_28 : decode cX12_imageAt 28 = .ok (.invokestatic 87, 3) := by decide +kernel
theorem dX12_imageAt_31 : decode cX12_imageAt 31 = .ok (.ifCond .eq 13, 3) := by decide +kernel
theorem dX12_imageAt_34 : decode cX12_imageAt 34 = .ok (.iload 4, 2) := by decide +kernel
theorem dX12_imageAt_36 : decode cX12_imageAt 36 = .ok (.iconst 0, 1) := by decide +kernel
theorem dX12_imageAt_37 : decode cX12_imageAt 37 = .ok (.iconst 1, 1) := by decide +kernel
theorem dX12_imageAt_38 : decode cX12_imageAt 38 = .ok (.invokestatic 87, 3) := by decide +kernel
theorem dX12_imageAt_41 : decode cX12_imageAt 41 = .ok (.ifCond .ne 5, 3) := by decide +kernel
theorem dX12_imageAt_44 : decode cX12_imageAt 44 = .ok (.iconst (-1), 1) := by decide +kernel
theorem dX12_imageAt_45 : decode cX12_imageAt 45 = .ok (.ireturn, 1) := by decide +kernel
theorem dX12_imageAt_46 : decode cX12_imageAt 46 = .ok (.aload_n 0, 1) := by decide +kernel
theorem dX12_imageAt_47 : decode cX12_imageAt 47 = .ok (.iload_n 1, 1) := by decide +kernel
theorem dX12_imageAt_48 : decode cX12_imageAt 48 = .ok (.bipush 7, 2) := by decide +kernel
theorem dX12_imageAt_50 : decode cX12_imageAt 50 = .ok (.invokevirtual 91, 3) := by decide +kernel
theorem dX12_imageAt_53 : decode cX12_imageAt 53 = .ok (.bipush (-9), 2) := by decide +kernel
theorem dX12_imageAt_55 : decode cX12_imageAt 55 = .ok (.if_icmp .ne 8, 3) := by decide +kernel
theorem dX12_imageAt_58 : decode cX12_imageAt 58 = .ok (.bipush (-9), 2) := by decide +kernel
theorem dX12_imageAt_60 : decode cX12_imageAt 60 = .ok (.goto 21, 3) := by decide +kernel
theorem dX12_imageAt_63 : decode cX12_imageAt 63 = .ok (.aload_n 0, 1) := by decide +kernel
theorem dX12_imageAt_64 : decode cX12_imageAt 64 = .ok (.iload_n 1, 1) := by decide +kernel
theorem dX12_imageAt_65 : decode cX12_imageAt 65 = .ok (.iload_n 2, 1) := by decide +kernel
theorem dX12_imageAt_66 : decode cX12_imageAt 66 = .ok (.iload_n 3, 1) := by decide +kernel
theorem dX12_imageAt_67 : decode cX12_imageAt 67 = .ok (.iload 4, 2) := by decide +kernel
theorem dX12_imageAt_69 : decode cX12_imageAt 69 = .ok (.iconst 1, 1) := by decide +kernel
theorem dX12_imageAt_70 : decode cX12_imageAt 70 = .ok (.if_icmp .ne 7, 3) := by decide +kernel
theorem dX12_imageAt_73 : decode cX12_imageAt 73 = .ok (.iconst 1, 1) := by decide +kernel
theorem dX12_imageAt_74 : decode cX12_imageAt 74 = .ok (.goto 4, 3) := by decide +kernel
theorem dX12_imageAt_77 : decode cX12_imageAt 77 = .ok (.iconst 0, 1) := by decide +kernel
theorem dX12_imageAt_78 : decode cX12_imageAt 78 = .ok (.invokevirtual 273, 3) := by decide +kernel
theorem dX12_imageAt_81 : decode cX12_imageAt 81 = .ok (.ireturn, 1) := by decide +kernel
theorem dX12_reach_0 : decode cX12_reach 0 = .ok (.aload_n 0, 1) := by decide +kernel
theorem dX12_reach_1 : decode cX12_reach 1 = .ok (.iload_n 1, 1) := by decide +kernel
theorem dX12_reach_2 : decode cX12_reach 2 = .ok (.invokevirtual 145, 3) := by decide +kernel
theorem dX12_reach_5 : decode cX12_reach 5 = .ok (.ifCond .eq 12, 3) := by decide +kernel
theorem dX12_reach_8 : decode cX12_reach 8 = .ok (.iload_n 2, 1) := by decide +kernel
theorem dX12_reach_9 : decode cX12_reach 9 = .ok (.iconst 0, 1) := by decide +kernel
theorem dX12_reach_10 : decode cX12_reach 10 = .ok (.iconst 3, 1) := by decide +kernel
theorem dX12_reach_11 : decode cX12_reach 11 = .ok (.invokestatic 87, 3) := by decide +kernel
theorem dX12_reach_14 : decode cX12_reach 14 = .ok (.ifCond .ne 5, 3) := by decide +kernel
theorem dX12_reach_17 : decode cX12_reach 17 = .ok (.iconst (-1), 1) := by decide +kernel
theorem dX12_reach_18 : decode cX12_reach 18 = .ok (.ireturn, 1) := by decide +kernel
theorem dX12_reach_19 : decode cX12_reach 19 = .ok (.aload_n 0, 1) := by decide +kernel
theorem dX12_reach_20 : decode cX12_reach 20 = .ok (.invokevirtual 120, 3) := by decide +kernel
theorem dX12_reach_23 : decode cX12_reach 23 = .ok (.aload_n 0, 1) := by decide +kernel
theorem dX12_reach_24 : decode cX12_reach 24 = .ok (.iload_n 1, 1) := by decide +kernel
theorem dX12_reach_25 : decode cX12_reach 25 = .ok (.iload_n 2, 1) := by decide +kernel
theorem dX12_reach_26 : decode cX12_reach 26 = .ok (.invokevirtual 281, 3) := by decide +kernel
theorem dX12_reach_29 : decode cX12_reach 29 = .ok (.ireturn, 1) := by decide +kernel
theorem dX12_turnedPanels_0 : decode cX12_turnedPanels 0 = .ok (.iconst 0, 1) := by decide +kernel
theorem dX12_turnedPanels_1 : decode cX12_turnedPanels 1 = .ok (.istore_n 1, 1) := by decide +kernel
theorem dX12_turnedPanels_2 : decode cX12_turnedPanels 2 = .ok (.iconst 1, 1) := by decide +kernel
theorem dX12_turnedPanels_3 : decode cX12_turnedPanels 3 = .ok (.istore_n 2, 1) := by decide +kernel
theorem dX12_turnedPanels_4 : decode cX12_turnedPanels 4 = .ok (.iload_n 2, 1) := by decide +kernel
theorem dX12_turnedPanels_5 : decode cX12_turnedPanels 5 = .ok (.aload_n 0, 1) := by decide +kernel
theorem dX12_turnedPanels_6 : decode cX12_turnedPanels 6 = .ok (.invokevirtual 83, 3) := by decide +kernel
theorem dX12_turnedPanels_9 : decode cX12_turnedPanels 9 = .ok (.if_icmp .ge 26, 3) := by decide +kernel
theorem dX12_turnedPanels_12 : decode cX12_turnedPanels 12 = .ok (.iload_n 1, 1) := by decide +kernel
theorem dX12_turnedPanels_13 : decode cX12_turnedPanels 13 = .ok (.aload_n 0, 1) := by decide +kernel
theorem dX12_turnedPanels_14 : decode cX12_turnedPanels 14 = .ok (.iload_n 2, 1) := by decide +kernel
theorem dX12_turnedPanels_15 : decode cX12_turnedPanels 15 = .ok (.iconst 5, 1) := by decide +kernel
theorem dX12_turnedPanels_16 : decode cX12_turnedPanels 16 = .ok (.invokevirtual 91, 3) := by decide +kernel
theorem dX12_turnedPanels_19 : decode cX12_turnedPanels 19 = .ok (.ifCond .eq 7, 3) := by decide +kernel
theorem dX12_turnedPanels_22 : decode cX12_turnedPanels 22 = .ok (.iconst 1, 1) := by decide +kernel
theorem dX12_turnedPanels_23 : decode cX12_turnedPanels 23 = .ok (.goto 4, 3) := by decide +kernel
theorem dX12_turnedPanels_26 : decode cX12_turnedPanels 26 = .ok (.iconst 0, 1) := by decide +kernel
theorem dX12_turnedPanels_27 : decode cX12_turnedPanels 27 = .ok (.iadd, 1) := by decide +kernel
theorem dX12_turnedPanels_28 : decode cX12_turnedPanels 28 = .ok (.istore_n 1, 1) := by decide +kernel
theorem dX12_turnedPanels_29 : decode cX12_turnedPanels 29 = .ok (.iinc 2 1, 3) := by decide +kernel
theorem dX12_turnedPanels_32 : decode cX12_turnedPanels 32 = .ok (.goto (-28), 3) := by decide +kernel
theorem dX12_turnedPanels_35 : decode cX12_turnedPanels 35 = .ok (.iload_n 1, 1) := by decide +kernel
theorem dX12_turnedPanels_36 : decode cX12_turnedPanels 36 = .ok (.ireturn, 1) := by decide +kernel
theorem dX12_flaps_0 : decode cX12_flaps 0 = .ok (.iconst 0, 1) := by decide +kernel
theorem dX12_flaps_1 : decode cX12_flaps 1 = .ok (.istore_n 1, 1) := by decide +kernel
theorem dX12_flaps_2 : decode cX12_flaps 2 = .ok (.iconst 0, 1) := by decide +kernel
theorem dX12_flaps_3 : decode cX12_flaps 3 = .ok (.istore_n 2, 1) := by decide +kernel
theorem dX12_flaps_4 : decode cX12_flaps 4 = .ok (.iload_n 2, 1) := by decide +kernel
theorem dX12_flaps_5 : decode cX12_flaps 5 = .ok (.aload_n 0, 1) := by decide +kernel
theorem dX12_flaps_6 : decode cX12_flaps 6 = .ok (.invokevirtual 83, 3) := by decide +kernel
theorem dX12_flaps_9 : decode cX12_flaps 9 = .ok (.if_icmp .ge 25, 3) := by decide +kernel
theorem dX12_flaps_12 : decode cX12_flaps 12 = .ok (.iload_n 1, 1) := by decide +kernel
theorem dX12_flaps_13 : decode cX12_flaps 13 = .ok (.aload_n 0, 1) := by decide +kernel
theorem dX12_flaps_14 : decode cX12_flaps 14 = .ok (.iload_n 2, 1) := by decide +kernel
theorem dX12_flaps_15 : decode cX12_flaps 15 = .ok (.invokevirtual 302, 3) := by decide +kernel
theorem dX12_flaps_18 : decode cX12_flaps 18 = .ok (.ifCond .eq 7, 3) := by decide +kernel
theorem dX12_flaps_21 : decode cX12_flaps 21 = .ok (.iconst 1, 1) := by decide +kernel
theorem dX12_flaps_22 : decode cX12_flaps 22 = .ok (.goto 4, 3) := by decide +kernel
theorem dX12_flaps_25 : decode cX12_flaps 25 = .ok (.iconst 0, 1) := by decide +kernel
theorem dX12_flaps_26 : decode cX12_flaps 26 = .ok (.iadd, 1) := by decide +kernel
theorem dX12_flaps_27 : decode cX12_flaps 27 = .ok (.istore_n 1, 1) := by decide +kernel
theorem dX12_flaps_28 : decode cX12_flaps 28 = .ok (.iinc 2 1, 3) := by decide +kernel
theorem dX12_flaps_31 : decode cX12_flaps 31 = .ok (.goto (-27), 3) := by decide +kernel
theorem dX12_flaps_34 : decode cX12_flaps 34 = .ok (.iload_n 1, 1) := by decide +kernel
theorem dX12_flaps_35 : decode cX12_flaps 35 = .ok (.ireturn, 1) := by decide +kernel
theorem dX12_definedImages_0 : decode cX12_definedImages 0 = .ok (.iconst 0, 1) := by decide +kernel
theorem dX12_definedImages_1 : decode cX12_definedImages 1 = .ok (.istore_n 1, 1) := by decide +kernel
theorem dX12_definedImages_2 : decode cX12_definedImages 2 = .ok (.iconst 0, 1) := by decide +kernel
theorem dX12_definedImages_3 : decode cX12_definedImages 3 = .ok (.istore_n 2, 1) := by decide +kernel
theorem dX12_definedImages_4 : decode cX12_definedImages 4 = .ok (.iload_n 2, 1) := by decide +kernel
theorem dX12_definedImages_5 : decode cX12_definedImages 5 = .ok (.iconst 4, 1) := by decide +kernel
theorem dX12_definedImages_6 : decode cX12_definedImages 6 = .ok (.if_icmp .ge 30, 3) := by decide +kernel
theorem dX12_definedImages_9 : decode cX12_definedImages 9 = .ok (.iload_n 1, 1) := by decide +kernel
theorem dX12_definedImages_10 : decode cX12_definedImages 10 = .ok (.aload_n 0, 1) := by decide +kernel
theorem dX12_definedImages_11 : decode cX12_definedImages 11 = .ok (.getfield 7, 3) := by decide +kernel
theorem dX12_definedImages_14 : decode cX12_definedImages 14 = .ok (.iconst 3, 1) := by decide +kernel
theorem dX12_definedImages_15 : decode cX12_definedImages 15 = .ok (.iconst 2, 1) := by decide +kernel
theorem dX12_definedImages_16 : decode cX12_definedImages 16 = .ok (.iload_n 2, 1) := by decide +kernel
theorem dX12_definedImages_17 : decode cX12_definedImages 17 = .ok (.imul, 1) := by decide +kernel
theorem dX12_definedImages_18 : decode cX12_definedImages 18 = .ok (.iadd, 1) := by decide +kernel
theorem dX12_definedImages_19 : decode cX12_definedImages 19 = .ok (.iaload, 1) := by decide +kernel
theorem dX12_definedImages_20 : decode cX12_definedImages 20 = .ok (.ifCond .le 7, 3) := by decide +kernel
theorem dX12_definedImages_23 : decode cX12_definedImages 23 = .ok (.iconst 1, 1) := by decide +kernel
theorem dX12_definedImages_24 : decode cX12_definedImages 24 = .ok (.goto 4, 3) := by decide +kernel
theorem dX12_definedImages_27 : decode cX12_definedImages 27 = .ok (.iconst 0, 1) := by decide +kernel
theorem dX12_definedImages_28 : decode cX12_definedImages 28 = .ok (.iadd, 1) := by decide +kernel
theorem dX12_definedImages_29 : decode cX12_definedImages 29 = .ok (.istore_n 1, 1) := by decide +kernel
theorem dX12_definedImages_30 : decode cX12_definedImages 30 = .ok (.iinc 2 1, 3) := by decide +kernel
theorem dX12_definedImages_33 : decode cX12_definedImages 33 = .ok (.goto (-29), 3) := by decide +kernel
theorem dX12_definedImages_36 : decode cX12_definedImages 36 = .ok (.iload_n 1, 1) := by decide +kernel
theorem dX12_definedImages_37 : decode cX12_definedImages 37 = .ok (.ireturn, 1) := by decide +kernel
theorem dX12_count_0 : decode cX12_count 0 = .ok (.iload_n 1, 1) := by decide +kernel
theorem dX12_count_1 : decode cX12_count 1 = .ok (.tableswitch 103 0 6 #[43, 48, 53, 83, 88, 93, 98], 43) := by decide +kernel
theorem dX12_count_44 : decode cX12_count 44 = .ok (.aload_n 0, 1) := by decide +kernel
theorem dX12_count_45 : decode cX12_count 45 = .ok (.invokevirtual 83, 3) := by decide +kernel
theorem dX12_count_48 : decode cX12_count 48 = .ok (.ireturn, 1) := by decide +kernel
theorem dX12_count_49 : decode cX12_count 49 = .ok (.aload_n 0, 1) := by decide +kernel
theorem dX12_count_50 : decode cX12_count 50 = .ok (.getfield 99, 3) := by decide +kernel
theorem dX12_count_53 : decode cX12_count 53 = .ok (.ireturn, 1) := by decide +kernel
theorem dX12_count_54 : decode cX12_count 54 = .ok (.aload_n 0, 1) := by decide +kernel
theorem dX12_count_55 : decode cX12_count 55 = .ok (.getfield 22, 3) := by decide +kernel
theorem dX12_count_58 : decode cX12_count 58 = .ok (.iconst 0, 1) := by decide +kernel
theorem dX12_count_59 : decode cX12_count 59 = .ok (.baload, 1) := by decide +kernel
theorem dX12_count_60 : decode cX12_count 60 = .ok (.ifCond .eq 7, 3) := by decide +kernel
theorem dX12_count_63 : decode cX12_count 63 = .ok (.iconst 1, 1) := by decide +kernel
theorem dX12_count_64 : decode cX12_count 64 = .ok (.goto 4, 3) := by decide +kernel
theorem dX12_count_67 : decode cX12_count 67 = .ok (.iconst 0, 1) := by decide +kernel
theorem dX12_count_68 : decode cX12_count 68 = .ok (.aload_n 0, 1) := by decide +kernel
theorem dX12_count_69 : decode cX12_count 69 = .ok (.getfield 22, 3) := by decide +kernel
theorem dX12_count_72 : decode cX12_count 72 = .ok (.iconst 1, 1) := by decide +kernel
theorem dX12_count_73 : decode cX12_count 73 = .ok (.baload, 1) := by decide +kernel
theorem dX12_count_74 : decode cX12_count 74 = .ok (.ifCond .eq 7, 3) := by decide +kernel
theorem dX12_count_77 : decode cX12_count 77 = .ok (.iconst 1, 1) := by decide +kernel
theorem dX12_count_78 : decode cX12_count 78 = .ok (.goto 4, 3) := by decide +kernel
theorem dX12_count_81 : decode cX12_count 81 = .ok (.iconst 0, 1) := by decide +kernel
theorem dX12_count_82 : decode cX12_count 82 = .ok (.iadd, 1) := by decide +kernel
theorem dX12_count_83 : decode cX12_count 83 = .ok (.ireturn, 1) := by decide +kernel
theorem dX12_count_84 : decode cX12_count 84 = .ok (.aload_n 0, 1) := by decide +kernel
theorem dX12_count_85 : decode cX12_count 85 = .ok (.getfield 173, 3) := by decide +kernel
theorem dX12_count_88 : decode cX12_count 88 = .ok (.ireturn, 1) := by decide +kernel
theorem dX12_count_89 : decode cX12_count 89 = .ok (.aload_n 0, 1) := by decide +kernel
theorem dX12_count_90 : decode cX12_count 90 = .ok (.invokevirtual 407, 3) := by decide +kernel
theorem dX12_count_93 : decode cX12_count 93 = .ok (.ireturn, 1) := by decide +kernel
theorem dX12_count_94 : decode cX12_count 94 = .ok (.aload_n 0, 1) := by decide +kernel
theorem dX12_count_95 : decode cX12_count 95 = .ok (.invokevirtual 410, 3) := by decide +kernel
theorem dX12_count_98 : decode cX12_count 98 = .ok (.ireturn, 1) := by decide +kernel
theorem dX12_count_99 : decode cX12_count 99 = .ok (.aload_n 0, 1) := by decide +kernel
theorem dX12_count_100 : decode cX12_count 100 = .ok (.invokevirtual 413, 3) := by decide +kernel
theorem dX12_count_103 : decode cX12_count 103 = .ok (.ireturn, 1) := by decide +kernel
theorem dX12_count_104 : decode cX12_count 104 = .ok (.iconst (-1), 1) := by decide +kernel
theorem dX12_count_105 : decode cX12_count 105 = .ok (.ireturn, 1) := by decide +kernel
