theorem dX0_init_0 : decode cX0_init 0 = .ok (.aload_n 0, 1) := by decide +kernel
theorem dX0_init_1 : decode cX0_init 1 = .ok (.invokespecial 3, 3) := by decide +kernel
theorem dX0_init_4 : decode cX0_init 4 = .ok (.aload_n 0, 1) := by decide +kernel
theorem dX0_init_5 : decode cX0_init 5 = .ok (.iconst 0, 1) := by decide +kernel
theorem dX0_init_6 : decode cX0_init 6 = .ok (.putfield 9, 3) := by decide +kernel
theorem dX0_init_9 : decode cX0_init 9 = .ok (.aload_n 0, 1) := by decide +kernel
theorem dX0_init_10 : decode cX0_init 10 = .ok (.iconst 0, 1) := by decide +kernel
theorem dX0_init_11 : decode cX0_init 11 = .ok (.putfield 15, 3) := by decide +kernel
theorem dX0_init_14 : decode cX0_init 14 = .ok (.aload_n 0, 1) := by decide +kernel
theorem dX0_init_15 : decode cX0_init 15 = .ok (.iconst 0, 1) := by decide +kernel
theorem dX0_init_16 : decode cX0_init 16 = .ok (.putfield 18, 3) := by decide +kernel
theorem dX0_init_19 : decode cX0_init 19 = .ok (.aload_n 0, 1) := by decide +kernel
theorem dX0_init_20 : decode cX0_init 20 = .ok (.bipush (-9), 2) := by decide +kernel
theorem dX0_init_22 : decode cX0_init 22 = .ok (.putfield 21, 3) := by decide +kernel
theorem dX0_init_25 : decode cX0_init 25 = .ok (.aload_n 0, 1) := by decide +kernel
theorem dX0_init_26 : decode cX0_init 26 = .ok (.bipush (-9), 2) := by decide +kernel
theorem dX0_init_28 : decode cX0_init 28 = .ok (.putfield 24, 3) := by decide +kernel
theorem dX0_init_31 : decode cX0_init 31 = .ok (.aload_n 0, 1) := by decide +kernel
theorem dX0_init_32 : decode cX0_init 32 = .ok (.new 27, 3) := by decide +kernel
theorem dX0_init_35 : decode cX0_init 35 = .ok (.dup, 1) := by decide +kernel
theorem dX0_init_36 : decode cX0_init 36 = .ok (.invokespecial 29, 3) := by decide +kernel
theorem dX0_init_39 : decode cX0_init 39 = .ok (.putfield 30, 3) := by decide +kernel
theorem dX0_init_42 : decode cX0_init 42 = .ok (.aload_n 0, 1) := by decide +kernel
theorem dX0_init_43 : decode cX0_init 43 = .ok (.aload_n 0, 1) := by decide +kernel
theorem dX0_init_44 : decode cX0_init 44 = .ok (.getfield 30, 3) := by decide +kernel
theorem dX0_init_47 : decode cX0_init 47 = .ok (.getfield 34, 3) := by decide +kernel
theorem dX0_init_50 : decode cX0_init 50 = .ok (.putfield 38, 3) := by decide +kernel
theorem dX0_init_53 : decode cX0_init 53 = .ok (.aload_n 0, 1) := by decide +kernel
theorem dX0_init_54 : decode cX0_init 54 = .ok (.bipush 6, 2) := by decide +kernel
theorem dX0_init_56 : decode cX0_init 56 = .ok (.newarray .int, 2) := by decide +kernel
theorem dX0_init_58 : decode cX0_init 58 = .ok (.putfield 39, 3) := by decide +kernel
theorem dX0_init_61 : decode cX0_init 61 = .ok (.aload_n 0, 1) := by decide +kernel
theorem dX0_init_62 : decode cX0_init 62 = .ok (.bipush 6, 2) := by decide +kernel
theorem dX0_init_64 : decode cX0_init 64 = .ok (.newarray .int, 2) := by decide +kernel
theorem dX0_init_66 : decode cX0_init 66 = .ok (.putfield 43, 3) := by decide +kernel
theorem dX0_init_69 : decode cX0_init 69 = .ok (.aload_n 0, 1) := by decide +kernel
theorem dX0_init_70 : decode cX0_init 70 = .ok (.bipush 6, 2) := by decide +kernel
theorem dX0_init_72 : decode cX0_init 72 = .ok (.newarray .int, 2) := by decide +kernel
theorem dX0_init_74 : decode cX0_init 74 = .ok (.putfield 46, 3) := by decide +kernel
theorem dX0_init_77 : decode cX0_init 77 = .ok (.aload_n 0, 1) := by decide +kernel
theorem dX0_init_78 : decode cX0_init 78 = .ok (.bipush 6, 2) := by decide +kernel
theorem dX0_init_80 : decode cX0_init 80 = .ok (.newarray .int, 2) := by decide +kernel
theorem dX0_init_82 : decode cX0_init 82 = .ok (.putfield 49, 3) := by decide +kernel
theorem dX0_init_85 : decode cX0_init 85 = .ok (.return_, 1) := by decide +kernel
theorem dX0_turnedA_0 : decode cX0_turnedA 0 = .ok (.iload_n 0, 1) := by decide +kernel
theorem dX0_turnedA_1 : decode cX0_turnedA 1 = .ok (.iconst 4, 1) := by decide +kernel
theorem dX0_turnedA_2 : decode cX0_turnedA 2 = .ok (.if_icmp .lt 9, 3) := by decide +kernel
theorem dX0_turnedA_5 : decode cX0_turnedA 5 = .ok (.iload_n 1, 1) := by decide +kernel
theorem dX0_turnedA_6 : decode cX0_turnedA 6 = .ok (.iload_n 3, 1) := by decide +kernel
theorem dX0_turnedA_7 : decode cX0_turnedA 7 = .ok (.isub, 1) := by decide +kernel
theorem dX0_turnedA_8 : decode cX0_turnedA 8 = .ok (.goto 4, 3) := by decide +kernel
theorem dX0_turnedA_11 : decode cX0_turnedA 11 = .ok (.iload_n 3, 1) := by decide +kernel
theorem dX0_turnedA_12 : decode cX0_turnedA 12 = .ok (.istore 5, 2) := by decide +kernel
theorem dX0_turnedA_14 : decode cX0_turnedA 14 = .ok (.iload_n 0, 1) := by decide +kernel
theorem dX0_turnedA_15 : decode cX0_turnedA 15 = .ok (.iconst 3, 1) := by decide +kernel
theorem dX0_turnedA_16 : decode cX0_turnedA 16 = .ok (.iand, 1) := by decide +kernel
theorem dX0_turnedA_17 : decode cX0_turnedA 17 = .ok (.tableswitch 40 0 2 #[27, 30, 35], 27) := by decide +kernel
theorem dX0_turnedA_44 : decode cX0_turnedA 44 = .ok (.iload 5, 2) := by decide +kernel
theorem dX0_turnedA_46 : decode cX0_turnedA 46 = .ok (.ireturn, 1) := by decide +kernel
theorem dX0_turnedA_47 : decode cX0_turnedA 47 = .ok (.iload_n 2, 1) := by decide +kernel
theorem dX0_turnedA_48 : decode cX0_turnedA 48 = .ok (.iload 4, 2) := by decide +kernel
theorem dX0_turnedA_50 : decode cX0_turnedA 50 = .ok (.isub, 1) := by decide +kernel
theorem dX0_turnedA_51 : decode cX0_turnedA 51 = .ok (.ireturn, 1) := by decide +kernel
theorem dX0_turnedA_52 : decode cX0_turnedA 52 = .ok (.iload_n 1, 1) := by decide +kernel
theorem dX0_turnedA_53 : decode cX0_turnedA 53 = .ok (.iload 5, 2) := by decide +kernel
theorem dX0_turnedA_55 : decode cX0_turnedA 55 = .ok (.isub, 1) := by decide +kernel
theorem dX0_turnedA_56 : decode cX0_turnedA 56 = .ok (.ireturn, 1) := by decide +kernel
theorem dX0_turnedA_57 : decode cX0_turnedA 57 = .ok (.iload 4, 2) := by decide +kernel
theorem dX0_turnedA_59 : decode cX0_turnedA 59 = .ok (.ireturn, 1) := by decide +kernel
theorem dX0_turnedB_0 : decode cX0_turnedB 0 = .ok (.iload_n 0, 1) := by decide +kernel
theorem dX0_turnedB_1 : decode cX0_turnedB 1 = .ok (.iconst 4, 1) := by decide +kernel
theorem dX0_turnedB_2 : decode cX0_turnedB 2 = .ok (.if_icmp .lt 9, 3) := by decide +kernel
theorem dX0_turnedB_5 : decode cX0_turnedB 5 = .ok (.iload_n 1, 1) := by decide +kernel
theorem dX0_turnedB_6 : decode cX0_turnedB 6 = .ok (.iload_n 3, 1) := by decide +kernel
theorem dX0_turnedB_7 : decode cX0_turnedB 7 = .ok (.isub, 1) := by decide +kernel
theorem dX0_turnedB_8 : decode cX0_turnedB 8 = .ok (.goto 4, 3) := by decide +kernel
theorem dX0_turnedB_11 : decode cX0_turnedB 11 = .ok (.iload_n 3, 1) := by decide +kernel
theorem dX0_turnedB_12 : decode cX0_turnedB 12 = .ok (.istore 5, 2) := by decide +kernel
theorem dX0_turnedB_14 : decode cX0_turnedB 14 = .ok (.iload_n 0, 1) := by decide +kernel
theorem dX0_turnedB_15 : decode cX0_turnedB 15 = .ok (.iconst 3, 1) := by decide +kernel
theorem dX0_turnedB_16 : decode cX0_turnedB 16 = .ok (.iand, 1) := by decide +kernel
theorem dX0_turnedB_17 : decode cX0_turnedB 17 = .ok (.tableswitch 38 0 2 #[27, 30, 33], 27) := by decide +kernel
theorem dX0_turnedB_44 : decode cX0_turnedB 44 = .ok (.iload 4, 2) := by decide +kernel
theorem dX0_turnedB_46 : decode cX0_turnedB 46 = .ok (.ireturn, 1) := by decide +kernel
theorem dX0_turnedB_47 : decode cX0_turnedB 47 = .ok (.iload 5, 2) := by decide +kernel
theorem dX0_turnedB_49 : decode cX0_turnedB 49 = .ok (.ireturn, 1) := by decide +kernel
theorem dX0_turnedB_50 : decode cX0_turnedB 50 = .ok (.iload_n 2, 1) := by decide +kernel
theorem dX0_turnedB_51 : decode cX0_turnedB 51 = .ok (.iload 4, 2) := by decide +kernel
theorem dX0_turnedB_53 : decode cX0_turnedB 53 = .ok (.isub, 1) := by decide +kernel
theorem dX0_turnedB_54 : decode cX0_turnedB 54 = .ok (.ireturn, 1) := by decide +kernel
theorem dX0_turnedB_55 : decode cX0_turnedB 55 = .ok (.iload_n 1, 1) := by decide +kernel
theorem dX0_turnedB_56 : decode cX0_turnedB 56 = .ok (.iload 5, 2) := by decide +kernel
theorem dX0_turnedB_58 : decode cX0_turnedB 58 = .ok (.isub, 1) := by decide +kernel
theorem dX0_turnedB_59 : decode cX0_turnedB 59 = .ok (.ireturn, 1) := by decide +kernel
theorem dX0_originalU_0 : decode cX0_originalU 0 = .ok (.iload_n 0, 1) := by decide +kernel
theorem dX0_originalU_1 : decode cX0_originalU 1 = .ok (.iconst 3, 1) := by decide +kernel
theorem dX0_originalU_2 : decode cX0_originalU 2 = .ok (.iand, 1) := by decide +kernel
theorem dX0_originalU_3 : decode cX0_originalU 3 = .ok (.istore 4, 2) := by decide +kernel
theorem dX0_originalU_5 : decode cX0_originalU 5 = .ok (.iload 4, 2) := by decide +kernel
theorem dX0_originalU_7 : decode cX0_originalU 7 = .ok (.ifCond .ne 7, 3) := by decide +kernel
theorem dX0_originalU_10 : decode cX0_originalU 10 = .ok (.iload_n 2, 1) := by decide +kernel
theorem dX0_originalU_11 : decode cX0_originalU 11 = .ok (.goto 28, 3) := by decide +kernel
theorem dX0_originalU_14 : decode cX0_originalU 14 = .ok (.iload 4, 2) := by decide +kernel
theorem dX0_originalU_16 : decode cX0_originalU 16 = .ok (.iconst 1, 1) := by decide +kernel
theorem dX0_originalU_17 : decode cX0_originalU 17 = .ok (.if_icmp .ne 7, 3) := by decide +kernel
theorem dX0_originalU_20 : decode cX0_originalU 20 = .ok (.iload_n 3, 1) := by decide +kernel
theorem dX0_originalU_21 : decode cX0_originalU 21 = .ok (.goto 18, 3) := by decide +kernel
theorem dX0_originalU_24 : decode cX0_originalU 24 = .ok (.iload 4, 2) := by decide +kernel
theorem dX0_originalU_26 : decode cX0_originalU 26 = .ok (.iconst 2, 1) := by decide +kernel
theorem dX0_originalU_27 : decode cX0_originalU 27 = .ok (.if_icmp .ne 9, 3) := by decide +kernel
theorem dX0_originalU_30 : decode cX0_originalU 30 = .ok (.iload_n 1, 1) := by decide +kernel
theorem dX0_originalU_31 : decode cX0_originalU 31 = .ok (.iload_n 2, 1) := by decide +kernel
theorem dX0_originalU_32 : decode cX0_originalU 32 = .ok (.isub, 1) := by decide +kernel
theorem dX0_originalU_33 : decode cX0_originalU 33 = .ok (.goto 6, 3) := by decide +kernel
theorem dX0_originalU_36 : decode cX0_originalU 36 = .ok (.iload_n 1, 1) := by decide +kernel
theorem dX0_originalU_37 : decode cX0_originalU 37 = .ok (.iload_n 3, 1) := by decide +kernel
theorem dX0_originalU_38 : decode cX0_originalU 38 = .ok (.isub, 1) := by decide +kernel
theorem dX0_originalU_39 : decode cX0_originalU 39 = .ok (.istore 5, 2) := by decide +kernel
theorem dX0_originalU_41 : decode cX0_originalU 41 = .ok (.iload_n 0, 1) := by decide +kernel
theorem dX0_originalU_42 : decode cX0_originalU 42 = .ok (.iconst 4, 1) := by decide +kernel
theorem dX0_originalU_43 : decode cX0_originalU 43 = .ok (.if_icmp .lt 10, 3) := by decide +kernel
theorem dX0_originalU_46 : decode cX0_originalU 46 = .ok (.iload_n 1, 1) := by decide +kernel
theorem dX0_originalU_47 : decode cX0_originalU 47 = .ok (.iload 5, 2) := by decide +kernel
theorem dX0_originalU_49 : decode cX0_originalU 49 = .ok (.isub, 1) := by decide +kernel
theorem dX0_originalU_50 : decode cX0_originalU 50 = .ok (.goto 5, 3) := by decide +kernel
theorem dX0_originalU_53 : decode cX0_originalU 53 = .ok (.iload 5, 2) := by decide +kernel
theorem dX0_originalU_55 : decode cX0_originalU 55 = .ok (.ireturn, 1) := by decide +kernel
theorem dX0_originalV_0 : decode cX0_originalV 0 = .ok (.iload_n 0, 1) := by decide +kernel
theorem dX0_originalV_1 : decode cX0_originalV 1 = .ok (.iconst 3, 1) := by decide +kernel
theorem dX0_originalV_2 : decode cX0_originalV 2 = .ok (.iand, 1) := by decide +kernel
theorem dX0_originalV_3 : decode cX0_originalV 3 = .ok (.istore 4, 2) := by decide +kernel
theorem dX0_originalV_5 : decode cX0_originalV 5 = .ok (.iload 4, 2) := by decide +kernel
theorem dX0_originalV_7 : decode cX0_originalV 7 = .ok (.ifCond .ne 7, 3) := by decide +kernel
theorem dX0_originalV_10 : decode cX0_originalV 10 = .ok (.iload_n 3, 1) := by decide +kernel
theorem dX0_originalV_11 : decode cX0_originalV 11 = .ok (.goto 28, 3) := by decide +kernel
theorem dX0_originalV_14 : decode cX0_originalV 14 = .ok (.iload 4, 2) := by decide +kernel
theorem dX0_originalV_16 : decode cX0_originalV 16 = .ok (.iconst 1, 1) := by decide +kernel
theorem dX0_originalV_17 : decode cX0_originalV 17 = .ok (.if_icmp .ne 9, 3) := by decide +kernel
theorem dX0_originalV_20 : decode cX0_originalV 20 = .ok (.iload_n 1, 1) := by decide +kernel
theorem dX0_originalV_21 : decode cX0_originalV 21 = .ok (.iload_n 2, 1) := by decide +kernel
theorem dX0_originalV_22 : decode cX0_originalV 22 = .ok (.isub, 1) := by decide +kernel
theorem dX0_originalV_23 : decode cX0_originalV 23 = .ok (.goto 16, 3) := by decide +kernel
theorem dX0_originalV_26 : decode cX0_originalV 26 = .ok (.iload 4, 2) := by decide +kernel
theorem dX0_originalV_28 : decode cX0_originalV 28 = .ok (.iconst 2, 1) := by decide +kernel
theorem dX0_originalV_29 : decode cX0_originalV 29 = .ok (.if_icmp .ne 9, 3) := by decide +kernel
theorem dX0_originalV_32 : decode cX0_originalV 32 = .ok (.iload_n 1, 1) := by decide +kernel
theorem dX0_originalV_33 : decode cX0_originalV 33 = .ok (.iload_n 3, 1) := by decide +kernel
theorem dX0_originalV_34 : decode cX0_originalV 34 = .ok (.isub, 1) := by decide +kernel
theorem dX0_originalV_35 : decode cX0_originalV 35 = .ok (.goto 4, 3) := by decide +kernel
theorem dX0_originalV_38 : decode cX0_originalV 38 = .ok (.iload_n 2, 1) := by decide +kernel
theorem dX0_originalV_39 : decode cX0_originalV 39 = .ok (.ireturn, 1) := by decide +kernel
theorem dX0_imageU_0 : decode cX0_imageU 0 = .ok (.aload_n 1, 1) := by decide +kernel
theorem dX0_imageU_1 : decode cX0_imageU 1 = .ok (.getfield 52, 3) := by decide +kernel
theorem dX0_imageU_4 : decode cX0_imageU 4 = .ok (.aload_n 0, 1) := by decide +kernel
theorem dX0_imageU_5 : decode cX0_imageU 5 = .ok (.aload_n 1, 1) := by decide +kernel
theorem dX0_imageU_6 : decode cX0_imageU 6 = .ok (.getfield 55, 3) := by decide +kernel
theorem dX0_imageU_9 : decode cX0_imageU 9 = .ok (.invokevirtual 56, 3) := by decide +kernel
theorem dX0_imageU_12 : decode cX0_imageU 12 = .ok (.iload_n 2, 1) := by decide +kernel
theorem dX0_imageU_13 : decode cX0_imageU 13 = .ok (.aload_n 1, 1) := by decide +kernel
theorem dX0_imageU_14 : decode cX0_imageU 14 = .ok (.getfield 62, 3) := by decide +kernel
theorem dX0_imageU_17 : decode cX0_imageU 17 = .ok (.isub, 1) := by decide +kernel
theorem dX0_imageU_18 : decode cX0_imageU 18 = .ok (.iload_n 3, 1) := by decide +kernel
theorem dX0_imageU_19 : decode cX0_imageU 19 = .ok (.aload_n 1, 1) := by decide +kernel
theorem dX0_imageU_20 : decode cX0_imageU 20 = .ok (.getfield 63, 3) := by decide +kernel
theorem dX0_imageU_23 : decode cX0_imageU 23 = .ok (.isub, 1) := by decide +kernel
theorem dX0_imageU_24 : decode cX0_imageU 24 = .ok (.invokestatic 64, 3) := by decide +kernel
theorem dX0_imageU_27 : decode cX0_imageU 27 = .ok (.ireturn, 1) := by decide +kernel
theorem dX0_imageV_0 : decode cX0_imageV 0 = .ok (.aload_n 1, 1) := by decide +kernel
theorem dX0_imageV_1 : decode cX0_imageV 1 = .ok (.getfield 52, 3) := by decide +kernel
theorem dX0_imageV_4 : decode cX0_imageV 4 = .ok (.aload_n 0, 1) := by decide +kernel
theorem dX0_imageV_5 : decode cX0_imageV 5 = .ok (.aload_n 1, 1) := by decide +kernel
theorem dX0_imageV_6 : decode cX0_imageV 6 = .ok (.getfield 55, 3) := by decide +kernel
theorem dX0_imageV_9 : decode cX0_imageV 9 = .ok (.invokevirtual 68, 3) := by decide +kernel
theorem dX0_imageV_12 : decode cX0_imageV 12 = .ok (.iload_n 2, 1) := by decide +kernel
theorem dX0_imageV_13 : decode cX0_imageV 13 = .ok (.aload_n 1, 1) := by decide +kernel
theorem dX0_imageV_14 : decode cX0_imageV 14 = .ok (.getfield 62, 3) := by decide +kernel
theorem dX0_imageV_17 : decode cX0_imageV 17 = .ok (.isub, 1) := by decide +kernel
theorem dX0_imageV_18 : decode cX0_imageV 18 = .ok (.iload_n 3, 1) := by decide +kernel
theorem dX0_imageV_19 : decode cX0_imageV 19 = .ok (.aload_n 1, 1) := by decide +kernel
theorem dX0_imageV_20 : decode cX0_imageV 20 = .ok (.getfield 63, 3) := by decide +kernel
theorem dX0_imageV_23 : decode cX0_imageV 23 = .ok (.isub, 1) := by decide +kernel
theorem dX0_imageV_24 : decode cX0_imageV 24 = .ok (.invokestatic 71, 3) := by decide +kernel
theorem dX0_imageV_27 : decode cX0_imageV 27 = .ok (.ireturn, 1) := by decide +kernel
theorem dX0_rightEnd_0 : decode cX0_rightEnd 0 = .ok (.aload_n 1, 1) := by decide +kernel
theorem dX0_rightEnd_1 : decode cX0_rightEnd 1 = .ok (.getfield 52, 3) := by decide +kernel
theorem dX0_rightEnd_4 : decode cX0_rightEnd 4 = .ok (.iconst 1, 1) := by decide +kernel
theorem dX0_rightEnd_5 : decode cX0_rightEnd 5 = .ok (.iand, 1) := by decide +kernel
theorem dX0_rightEnd_6 : decode cX0_rightEnd 6 = .ok (.ifCond .ne 7, 3) := by decide +kernel
theorem dX0_rightEnd_9 : decode cX0_rightEnd 9 = .ok (.iconst 1, 1) := by decide +kernel
theorem dX0_rightEnd_10 : decode cX0_rightEnd 10 = .ok (.goto 4, 3) := by decide +kernel
theorem dX0_rightEnd_13 : decode cX0_rightEnd 13 = .ok (.iconst 0, 1) := by decide +kernel
theorem dX0_rightEnd_14 : decode cX0_rightEnd 14 = .ok (.istore_n 2, 1) := by decide +kernel
theorem dX0_rightEnd_15 : decode cX0_rightEnd 15 = .ok (.aload_n 1, 1) := by decide +kernel
theorem dX0_rightEnd_16 : decode cX0_rightEnd 16 = .ok (.getfield 62, 3) := by decide +kernel
theorem dX0_rightEnd_19 : decode cX0_rightEnd 19 = .ok (.iload_n 2, 1) := by decide +kernel
theorem dX0_rightEnd_20 : decode cX0_rightEnd 20 = .ok (.ifCond .eq 14, 3) := by decide +kernel
theorem dX0_rightEnd_23 : decode cX0_rightEnd 23 = .ok (.aload_n 0, 1) := by decide +kernel
theorem dX0_rightEnd_24 : decode cX0_rightEnd 24 = .ok (.aload_n 1, 1) := by decide +kernel
theorem dX0_rightEnd_25 : decode cX0_rightEnd 25 = .ok (.getfield 55, 3) := by decide +kernel
theorem dX0_rightEnd_28 : decode cX0_rightEnd 28 = .ok (.invokevirtual 56, 3) := by decide +kernel
theorem dX0_rightEnd_31 : decode cX0_rightEnd 31 = .ok (.goto 11, 3) := by decide +kernel
theorem dX0_rightEnd_34 : decode cX0_rightEnd 34 = .ok (.aload_n 0, 1) := by decide +kernel
theorem dX0_rightEnd_35 : decode cX0_rightEnd 35 = .ok (.aload_n 1, 1) := by decide +kernel
theorem dX0_rightEnd_36 : decode cX0_rightEnd 36 = .ok (.getfield 55, 3) := by decide +kernel
theorem dX0_rightEnd_39 : decode cX0_rightEnd 39 = .ok (.invokevirtual 68, 3) := by decide +kernel
theorem dX0_rightEnd_42 : decode cX0_rightEnd 42 = .ok (.iadd, 1) := by decide +kernel
theorem dX0_rightEnd_43 : decode cX0_rightEnd 43 = .ok (.ireturn, 1) := by decide +kernel
theorem dX0_upperEnd_0 : decode cX0_upperEnd 0 = .ok (.aload_n 1, 1) := by decide +kernel
theorem dX0_upperEnd_1 : decode cX0_upperEnd 1 = .ok (.getfield 52, 3) := by decide +kernel
theorem dX0_upperEnd_4 : decode cX0_upperEnd 4 = .ok (.iconst 1, 1) := by decide +kernel
theorem dX0_upperEnd_5 : decode cX0_upperEnd 5 = .ok (.iand, 1) := by decide +kernel
theorem dX0_upperEnd_6 : decode cX0_upperEnd 6 = .ok (.ifCond .ne 7, 3) := by decide +kernel
theorem dX0_upperEnd_9 : decode cX0_upperEnd 9 = .ok (.iconst 1, 1) := by decide +kernel
theorem dX0_upperEnd_10 : decode cX0_upperEnd 10 = .ok (.goto 4, 3) := by decide +kernel
theorem dX0_upperEnd_13 : decode cX0_upperEnd 13 = .ok (.iconst 0, 1) := by decide +kernel
theorem dX0_upperEnd_14 : decode cX0_upperEnd 14 = .ok (.istore_n 2, 1) := by decide +kernel
theorem dX0_upperEnd_15 : decode cX0_upperEnd 15 = .ok (.aload_n 1, 1) := by decide +kernel
theorem dX0_upperEnd_16 : decode cX0_upperEnd 16 = .ok (.getfield 63, 3) := by decide +kernel
theorem dX0_upperEnd_19 : decode cX0_upperEnd 19 = .ok (.iload_n 2, 1) := by decide +kernel
theorem dX0_upperEnd_20 : decode cX0_upperEnd 20 = .ok (.ifCond .eq 14, 3) := by decide +kernel
theorem dX0_upperEnd_23 : decode cX0_upperEnd 23 = .ok (.aload_n 0, 1) := by decide +kernel
theorem dX0_upperEnd_24 : decode cX0_upperEnd 24 = .ok (.aload_n 1, 1) := by decide +kernel
theorem dX0_upperEnd_25 : decode cX0_upperEnd 25 = .ok (.getfield 55, 3) := by decide +kernel
theorem dX0_upperEnd_28 : decode cX0_upperEnd 28 = .ok (.invokevirtual 68, 3) := by decide +kernel
theorem dX0_upperEnd_31 : decode cX0_upperEnd 31 = .ok (.goto 11, 3) := by decide +kernel
theorem dX0_upperEnd_34 : decode cX0_upperEnd 34 = .ok (.aload_n 0, 1) := by decide +kernel
theorem dX0_upperEnd_35 : decode cX0_upperEnd 35 = .ok (.aload_n 1, 1) := by decide +kernel
theorem dX0_upperEnd_36 : decode cX0_upperEnd 36 = .ok (.getfield 55, 3) := by decide +kernel
theorem dX0_upperEnd_39 : decode cX0_upperEnd 39 = .ok (.invokevirtual 56, 3) := by decide +kernel
theorem dX0_upperEnd_42 : decode cX0_upperEnd 42 = .ok (.iadd, 1) := by decide +kernel
theorem dX0_upperEnd_43 : decode cX0_upperEnd 43 = .ok (.ireturn, 1) := by decide +kernel
theorem dX0_shows_0 : decode cX0_shows 0 = .ok (.aload_n 1, 1) := by decide +kernel
theorem dX0_shows_1 : decode cX0_shows 1 = .ok (.aload_n 0, 1) := by decide +kernel
theorem dX0_shows_2 : decode cX0_shows 2 = .ok (.aload_n 1, 1) := by decide +kernel
theorem dX0_shows_3 : decode cX0_shows 3 = .ok (.invokestatic 74, 3) := by decide +kernel
theorem dX0_shows_6 : decode cX0_shows 6 = .ok (.aload_n 0, 1) := by decide +kernel
theorem dX0_shows_7 : decode cX0_shows 7 = .ok (.aload_n 1, 1) := by decide +kernel
theorem dX0_shows_8 : decode cX0_shows 8 = .ok (.invokestatic 78, 3) := by decide +kernel
theorem dX0_shows_11 : decode cX0_shows 11 = .ok (.invokestatic 81, 3) := by decide +kernel
theorem dX0_shows_14 : decode cX0_shows 14 = .ok (.ireturn, 1) := by decide +kernel
theorem dX0_isSeen_0 : decode cX0_isSeen 0 = .ok (.aload_n 0, 1) := by decide +kernel
theorem dX0_isSeen_1 : decode cX0_isSeen 1 = .ok (.getfield 55, 3) := by decide +kernel
theorem dX0_isSeen_4 : decode cX0_isSeen 4 = .ok (.bipush (-9), 2) := by decide +kernel
theorem dX0_isSeen_6 : decode cX0_isSeen 6 = .ok (.if_icmp .eq 37, 3) := by decide +kernel
theorem dX0_isSeen_9 : decode cX0_isSeen 9 = .ok (.aload_n 0, 1) := by decide +kernel
theorem dX0_isSeen_10 : decode cX0_isSeen 10 = .ok (.getfield 62, 3) := by decide +kernel
theorem dX0_isSeen_13 : decode cX0_isSeen 13 = .ok (.aload_n 0, 1) := by decide +kernel
theorem dX0_isSeen_14 : decode cX0_isSeen 14 = .ok (.getfield 85, 3) := by decide +kernel
theorem dX0_isSeen_17 : decode cX0_isSeen 17 = .ok (.if_icmp .ge 26, 3) := by decide +kernel
theorem dX0_isSeen_20 : decode cX0_isSeen 20 = .ok (.aload_n 0, 1) := by decide +kernel
theorem dX0_isSeen_21 : decode cX0_isSeen 21 = .ok (.getfield 63, 3) := by decide +kernel
theorem dX0_isSeen_24 : decode cX0_isSeen 24 = .ok (.aload_n 0, 1) := by decide +kernel
theorem dX0_isSeen_25 : decode cX0_isSeen 25 = .ok (.getfield 88, 3) := by decide +kernel
theorem dX0_isSeen_28 : decode cX0_isSeen 28 = .ok (.if_icmp .ge 15, 3) := by decide +kernel
theorem dX0_isSeen_31 : decode cX0_isSeen 31 = .ok (.iload_n 1, 1) := by decide +kernel
theorem dX0_isSeen_32 : decode cX0_isSeen 32 = .ok (.ifCond .le 11, 3) := by decide +kernel
theorem dX0_isSeen_35 : decode cX0_isSeen 35 = .ok (.iload_n 2, 1) := by decide +kernel
theorem dX0_isSeen_36 : decode cX0_isSeen 36 = .ok (.ifCond .le 7, 3) := by decide +kernel
theorem dX0_isSeen_39 : decode cX0_isSeen 39 = .ok (.iconst 1, 1) := by decide +kernel
theorem dX0_isSeen_40 : decode cX0_isSeen 40 = .ok (.goto 4, 3) := by decide +kernel
theorem dX0_isSeen_43 : decode cX0_isSeen 43 = .ok (.iconst 0, 1) := by decide +kernel
theorem dX0_isSeen_44 : decode cX0_isSeen 44 = .ok (.ireturn, 1) := by decide +kernel
theorem dX0_reachAt_0 : decode cX0_reachAt 0 = .ok (.aload_n 0, 1) := by decide +kernel
theorem dX0_reachAt_1 : decode cX0_reachAt 1 = .ok (.aload_n 1, 1) := by decide +kernel
theorem dX0_reachAt_2 : decode cX0_reachAt 2 = .ok (.invokestatic 74, 3) := by decide +kernel
theorem dX0_reachAt_5 : decode cX0_reachAt 5 = .ok (.istore_n 3, 1) := by decide +kernel
theorem dX0_reachAt_6 : decode cX0_reachAt 6 = .ok (.aload_n 0, 1) := by decide +kernel
theorem dX0_reachAt_7 : decode cX0_reachAt 7 = .ok (.aload_n 1, 1) := by decide +kernel
theorem dX0_reachAt_8 : decode cX0_reachAt 8 = .ok (.invokestatic 78, 3) := by decide +kernel
theorem dX0_reachAt_11 : decode cX0_reachAt 11 = .ok (.istore 4, 2) := by decide +kernel
theorem dX0_reachAt_13 : decode cX0_reachAt 13 = .ok (.aload_n 1, 1) := by decide +kernel
theorem dX0_reachAt_14 : decode cX0_reachAt 14 = .ok (.iload_n 3, 1) := by decide +kernel
theorem dX0_reachAt_15 : decode cX0_reachAt 15 = .ok (.iload 4, 2) := by decide +kernel
theorem dX0_reachAt_17 : decode cX0_reachAt 17 = .ok (.invokestatic 81, 3) := by decide +kernel
theorem dX0_reachAt_20 : decode cX0_reachAt 20 = .ok (.ifCond .ne 6, 3) := by decide +kernel
theorem dX0_reachAt_23 : decode cX0_reachAt 23 = .ok (.bipush (-9), 2) := by decide +kernel
theorem dX0_reachAt_25 : decode cX0_reachAt 25 = .ok (.ireturn, 1) := by decide +kernel
theorem dX0_reachAt_26 : decode cX0_reachAt 26 = .ok (.iload_n 2, 1) := by decide +kernel
theorem dX0_reachAt_27 : decode cX0_reachAt 27 = .ok (.ifCond .ne 11, 3) := by decide +kernel
theorem dX0_reachAt_30 : decode cX0_reachAt 30 = .ok (.aload_n 1, 1) := by decide +kernel
theorem dX0_reachAt_31 : decode cX0_reachAt 31 = .ok (.getfield 63, 3) := by decide +kernel
theorem dX0_reachAt_34 : decode cX0_reachAt 34 = .ok (.ineg, 1) := by decide +kernel
theorem dX0_reachAt_35 : decode cX0_reachAt 35 = .ok (.goto 37, 3) := by decide +kernel
theorem dX0_reachAt_38 : decode cX0_reachAt 38 = .ok (.iload_n 2, 1) := by decide +kernel
theorem dX0_reachAt_39 : decode cX0_reachAt 39 = .ok (.iconst 1, 1) := by decide +kernel
theorem dX0_reachAt_40 : decode cX0_reachAt 40 = .ok (.if_icmp .ne 12, 3) := by decide +kernel
theorem dX0_reachAt_43 : decode cX0_reachAt 43 = .ok (.iload_n 3, 1) := by decide +kernel
theorem dX0_reachAt_44 : decode cX0_reachAt 44 = .ok (.aload_n 1, 1) := by decide +kernel
theorem dX0_reachAt_45 : decode cX0_reachAt 45 = .ok (.getfield 85, 3) := by decide +kernel
theorem dX0_reachAt_48 : decode cX0_reachAt 48 = .ok (.isub, 1) := by decide +kernel
theorem dX0_reachAt_49 : decode cX0_reachAt 49 = .ok (.goto 23, 3) := by decide +kernel
theorem dX0_reachAt_52 : decode cX0_reachAt 52 = .ok (.iload_n 2, 1) := by decide +kernel
theorem dX0_reachAt_53 : decode cX0_reachAt 53 = .ok (.iconst 2, 1) := by decide +kernel
theorem dX0_reachAt_54 : decode cX0_reachAt 54 = .ok (.if_icmp .ne 13, 3) := by decide +kernel
theorem dX0_reachAt_57 : decode cX0_reachAt 57 = .ok (.iload 4, 2) := by decide +kernel
theorem dX0_reachAt_59 : decode cX0_reachAt 59 = .ok (.aload_n 1, 1) := by decide +kernel
theorem dX0_reachAt_60 : decode cX0_reachAt 60 = .ok (.getfield 88, 3) := by decide +kernel
theorem dX0_reachAt_63 : decode cX0_reachAt 63 = .ok (.isub, 1) := by decide +kernel
theorem dX0_reachAt_64 : decode cX0_reachAt 64 = .ok (.goto 8, 3) := by decide +kernel
theorem dX0_reachAt_67 : decode cX0_reachAt 67 = .ok (.aload_n 1, 1) := by decide +kernel
theorem dX0_reachAt_68 : decode cX0_reachAt 68 = .ok (.getfield 62, 3) := by decide +kernel
theorem dX0_reachAt_71 : decode cX0_reachAt 71 = .ok (.ineg, 1) := by decide +kernel
theorem dX0_reachAt_72 : decode cX0_reachAt 72 = .ok (.istore 5, 2) := by decide +kernel
theorem dX0_reachAt_74 : decode cX0_reachAt 74 = .ok (.iload 5, 2) := by decide +kernel
theorem dX0_reachAt_76 : decode cX0_reachAt 76 = .ok (.ifCond .lt 8, 3) := by decide +kernel
theorem dX0_reachAt_79 : decode cX0_reachAt 79 = .ok (.iload 5, 2) := by decide +kernel
theorem dX0_reachAt_81 : decode cX0_reachAt 81 = .ok (.goto 5, 3) := by decide +kernel
theorem dX0_reachAt_84 : decode cX0_reachAt 84 = .ok (.bipush (-9), 2) := by decide +kernel
theorem dX0_reachAt_86 : decode cX0_reachAt 86 = .ok (.ireturn, 1) := by decide +kernel
theorem dX0_takePoints_0 : decode cX0_takePoints 0 = .ok (.aload_n 0, 1) := by decide +kernel
theorem dX0_takePoints_1 : decode cX0_takePoints 1 = .ok (.getfield 38, 3) := by decide +kernel
theorem dX0_takePoints_4 : decode cX0_takePoints 4 = .ok (.aload_n 0, 1) := by decide +kernel
theorem dX0_takePoints_5 : decode cX0_takePoints 5 = .ok (.getfield 30, 3) := by decide +kernel
theorem dX0_takePoints_8 : decode cX0_takePoints 8 = .ok (.iload_n 1, 1) := by decide +kernel
theorem dX0_takePoints_9 : decode cX0_takePoints 9 = .ok (.invokevirtual 91, 3) := by decide +kernel
theorem dX0_takePoints_12 : decode cX0_takePoints 12 = .ok (.invokevirtual 94, 3) := by decide +kernel
theorem dX0_takePoints_15 : decode cX0_takePoints 15 = .ok (.astore_n 2, 1) := by decide +kernel
theorem dX0_takePoints_16 : decode cX0_takePoints 16 = .ok (.aload_n 0, 1) := by decide +kernel
theorem dX0_takePoints_17 : decode cX0_takePoints 17 = .ok (.getfield 38, 3) := by decide +kernel
theorem dX0_takePoints_20 : decode cX0_takePoints 20 = .ok (.aload_n 0, 1) := by decide +kernel
theorem dX0_takePoints_21 : decode cX0_takePoints 21 = .ok (.getfield 30, 3) := by decide +kernel
theorem dX0_takePoints_24 : decode cX0_takePoints 24 = .ok (.iload_n 1, 1) := by decide +kernel
theorem dX0_takePoints_25 : decode cX0_takePoints 25 = .ok (.invokevirtual 100, 3) := by decide +kernel
theorem dX0_takePoints_28 : decode cX0_takePoints 28 = .ok (.invokevirtual 94, 3) := by decide +kernel
theorem dX0_takePoints_31 : decode cX0_takePoints 31 = .ok (.astore_n 3, 1) := by decide +kernel
theorem dX0_takePoints_32 : decode cX0_takePoints 32 = .ok (.aload_n 0, 1) := by decide +kernel
theorem dX0_takePoints_33 : decode cX0_takePoints 33 = .ok (.getfield 30, 3) := by decide +kernel
theorem dX0_takePoints_36 : decode cX0_takePoints 36 = .ok (.iload_n 1, 1) := by decide +kernel
theorem dX0_takePoints_37 : decode cX0_takePoints 37 = .ok (.invokevirtual 103, 3) := by decide +kernel
theorem dX0_takePoints_40 : decode cX0_takePoints 40 = .ok (.iconst 3, 1) := by decide +kernel
theorem dX0_takePoints_41 : decode cX0_takePoints 41 = .ok (.iand, 1) := by decide +kernel
theorem dX0_takePoints_42 : decode cX0_takePoints 42 = .ok (.istore 4, 2) := by decide +kernel
theorem dX0_takePoints_44 : decode cX0_takePoints 44 = .ok (.aload_n 0, 1) := by decide +kernel
theorem dX0_takePoints_45 : decode cX0_takePoints 45 = .ok (.getfield 30, 3) := by decide +kernel
theorem dX0_takePoints_48 : decode cX0_takePoints 48 = .ok (.iload_n 1, 1) := by decide +kernel
theorem dX0_takePoints_49 : decode cX0_takePoints 49 = .ok (.invokevirtual 106, 3) := by decide +kernel
theorem dX0_takePoints_52 : decode cX0_takePoints 52 = .ok (.iconst 3, 1) := by decide +kernel
theorem dX0_takePoints_53 : decode cX0_takePoints 53 = .ok (.iand, 1) := by decide +kernel
theorem dX0_takePoints_54 : decode cX0_takePoints 54 = .ok (.istore 5, 2) := by decide +kernel
theorem dX0_takePoints_56 : decode cX0_takePoints 56 = .ok (.aload_n 0, 1) := by decide +kernel
theorem dX0_takePoints_57 : decode cX0_takePoints 57 = .ok (.getfield 30, 3) := by decide +kernel
theorem dX0_takePoints_60 : decode cX0_takePoints 60 = .ok (.iload_n 1, 1) := by decide +kernel
theorem dX0_takePoints_61 : decode cX0_takePoints 61 = .ok (.invokevirtual 109, 3) := by decide +kernel
theorem dX0_takePoints_64 : decode cX0_takePoints 64 = .ok (.istore 6, 2) := by decide +kernel
theorem dX0_takePoints_66 : decode cX0_takePoints 66 = .ok (.aload_n 0, 1) := by decide +kernel
theorem dX0_takePoints_67 : decode cX0_takePoints 67 = .ok (.getfield 30, 3) := by decide +kernel
theorem dX0_takePoints_70 : decode cX0_takePoints 70 = .ok (.iload_n 1, 1) := by decide +kernel
theorem dX0_takePoints_71 : decode cX0_takePoints 71 = .ok (.invokevirtual 112, 3) := by decide +kernel
theorem dX0_takePoints_74 : decode cX0_takePoints 74 = .ok (.istore 7, 2) := by decide +kernel
theorem dX0_takePoints_76 : decode cX0_takePoints 76 = .ok (.aload_n 0, 1) := by decide +kernel
theorem dX0_takePoints_77 : decode cX0_takePoints 77 = .ok (.iconst 0, 1) := by decide +kernel
theorem dX0_takePoints_78 : decode cX0_takePoints 78 = .ok (.aload_n 2, 1) := by decide +kernel
theorem dX0_takePoints_79 : decode cX0_takePoints 79 = .ok (.iload 4, 2) := by decide +kernel
theorem dX0_takePoints_81 : decode cX0_takePoints 81 = .ok (.iload 6, 2) := by decide +kernel
theorem dX0_takePoints_83 : decode cX0_takePoints 83 = .ok (.invokevirtual 115, 3) := by decide +kernel
theorem dX0_takePoints_86 : decode cX0_takePoints 86 = .ok (.aload_n 2, 1) := by decide +kernel
theorem dX0_takePoints_87 : decode cX0_takePoints 87 = .ok (.iload 4, 2) := by decide +kernel
theorem dX0_takePoints_89 : decode cX0_takePoints 89 = .ok (.iload 6, 2) := by decide +kernel
theorem dX0_takePoints_91 : decode cX0_takePoints 91 = .ok (.invokevirtual 120, 3) := by decide +kernel
theorem dX0_takePoints_94 : decode cX0_takePoints 94 = .ok (.invokevirtual 122, 3) := by decide +kernel
theorem dX0_takePoints_97 : decode cX0_takePoints 97 = .ok (.aload_n 0, 1) := by decide +kernel
theorem dX0_takePoints_98 : decode cX0_takePoints 98 = .ok (.iconst 1, 1) := by decide +kernel
theorem dX0_takePoints_99 : decode cX0_takePoints 99 = .ok (.aload_n 2, 1) := by decide +kernel
theorem dX0_takePoints_100 : decode cX0_takePoints 100 = .ok (.iload 4, 2) := by decide +kernel
theorem dX0_takePoints_102 : decode cX0_takePoints 102 = .ok (.iload 7, 2) := by decide +kernel
theorem dX0_takePoints_104 : decode cX0_takePoints 104 = .ok (.invokevirtual 115, 3) := by decide +kernel
theorem dX0_takePoints_107 : decode cX0_takePoints 107 = .ok (.aload_n 2, 1) := by decide +kernel
theorem dX0_takePoints_108 : decode cX0_takePoints 108 = .ok (.iload 4, 2) := by decide +kernel
theorem dX0_takePoints_110 : decode cX0_takePoints 110 = .ok (.iload 7, 2) := by decide +kernel
theorem dX0_takePoints_112 : decode cX0_takePoints 112 = .ok (.invokevirtual 120, 3) := by decide +kernel
theorem dX0_takePoints_115 : decode cX0_takePoints 115 = .ok (.invokevirtual 122, 3) := by decide +kernel
theorem dX0_takePoints_118 : decode cX0_takePoints 118 = .ok (.aload_n 0, 1) := by decide +kernel
theorem dX0_takePoints_119 : decode cX0_takePoints 119 = .ok (.iconst 2, 1) := by decide +kernel
theorem dX0_takePoints_120 : decode cX0_takePoints 120 = .ok (.aload_n 0, 1) := by decide +kernel
theorem dX0_takePoints_121 : decode cX0_takePoints 121 = .ok (.getfield 39, 3) := by decide +kernel
theorem dX0_takePoints_124 : decode cX0_takePoints 124 = .ok (.iconst 0, 1) := by decide +kernel
theorem dX0_takePoints_125 : decode cX0_takePoints 125 = .ok (.iaload, 1) := by decide +kernel
theorem dX0_takePoints_126 : decode cX0_takePoints 126 = .ok (.getstatic 126, 3) := by decide +kernel
theorem dX0_takePoints_129 : decode cX0_takePoints 129 = .ok (.iload 4, 2) := by decide +kernel
theorem dX0_takePoints_131 : decode cX0_takePoints 131 = .ok (.iaload, 1) := by decide +kernel
theorem dX0_takePoints_132 : decode cX0_takePoints 132 = .ok (.iadd, 1) := by decide +kernel
theorem dX0_takePoints_133 : decode cX0_takePoints 133 = .ok (.aload_n 0, 1) := by decide +kernel
theorem dX0_takePoints_134 : decode cX0_takePoints 134 = .ok (.getfield 43, 3) := by decide +kernel
theorem dX0_takePoints_137 : decode cX0_takePoints 137 = .ok (.iconst 0, 1) := by decide +kernel
theorem dX0_takePoints_138 : decode cX0_takePoints 138 = .ok (.iaload, 1) := by decide +kernel
theorem dX0_takePoints_139 : decode cX0_takePoints 139 = .ok (.getstatic 129, 3) := by decide +kernel
theorem dX0_takePoints_142 : decode cX0_takePoints 142 = .ok (.iload 4, 2) := by decide +kernel
theorem dX0_takePoints_144 : decode cX0_takePoints 144 = .ok (.iaload, 1) := by decide +kernel
theorem dX0_takePoints_145 : decode cX0_takePoints 145 = .ok (.iadd, 1) := by decide +kernel
theorem dX0_takePoints_146 : decode cX0_takePoints 146 = .ok (.invokevirtual 122, 3) := by decide +kernel
theorem dX0_takePoints_149 : decode cX0_takePoints 149 = .ok (.aload_n 0, 1) := by decide +kernel
theorem dX0_takePoints_150 : decode cX0_takePoints 150 = .ok (.iconst 3, 1) := by decide +kernel
theorem dX0_takePoints_151 : decode cX0_takePoints 151 = .ok (.aload_n 3, 1) := by decide +kernel
theorem dX0_takePoints_152 : decode cX0_takePoints 152 = .ok (.iload 5, 2) := by decide +kernel
theorem dX0_takePoints_154 : decode cX0_takePoints 154 = .ok (.iload 6, 2) := by decide +kernel
theorem dX0_takePoints_156 : decode cX0_takePoints 156 = .ok (.invokevirtual 115, 3) := by decide +kernel
theorem dX0_takePoints_159 : decode cX0_takePoints 159 = .ok (.aload_n 3, 1) := by decide +kernel
theorem dX0_takePoints_160 : decode cX0_takePoints 160 = .ok (.iload 5, 2) := by decide +kernel
theorem dX0_takePoints_162 : decode cX0_takePoints 162 = .ok (.iload 6, 2) := by decide +kernel
theorem dX0_takePoints_164 : decode cX0_takePoints 164 = .ok (.invokevirtual 120, 3) := by decide +kernel
theorem dX0_takePoints_167 : decode cX0_takePoints 167 = .ok (.invokevirtual 122, 3) := by decide +kernel
theorem dX0_takePoints_170 : decode cX0_takePoints 170 = .ok (.aload_n 0, 1) := by decide +kernel
theorem dX0_takePoints_171 : decode cX0_takePoints 171 = .ok (.iconst 4, 1) := by decide +kernel
theorem dX0_takePoints_172 : decode cX0_takePoints 172 = .ok (.aload_n 3, 1) := by decide +kernel
theorem dX0_takePoints_173 : decode cX0_takePoints 173 = .ok (.iload 5, 2) := by decide +kernel
theorem dX0_takePoints_175 : decode cX0_takePoints 175 = .ok (.iload 7, 2) := by decide +kernel
theorem dX0_takePoints_177 : decode cX0_takePoints 177 = .ok (.invokevirtual 115, 3) := by decide +kernel
theorem dX0_takePoints_180 : decode cX0_takePoints 180 = .ok (.aload_n 3, 1) := by decide +kernel
theorem dX0_takePoints_181 : decode cX0_takePoints 181 = .ok (.iload 5, 2) := by decide +kernel
theorem dX0_takePoints_183 : decode cX0_takePoints 183 = .ok (.iload 7, 2) := by decide +kernel
theorem dX0_takePoints_185 : decode cX0_takePoints 185 = .ok (.invokevirtual 120, 3) := by decide +kernel
theorem dX0_takePoints_188 : decode cX0_takePoints 188 = .ok (.invokevirtual 122, 3) := by decide +kernel
theorem dX0_takePoints_191 : decode cX0_takePoints 191 = .ok (.aload_n 0, 1) := by decide +kernel
theorem dX0_takePoints_192 : decode cX0_takePoints 192 = .ok (.iconst 5, 1) := by decide +kernel
theorem dX0_takePoints_193 : decode cX0_takePoints 193 = .ok (.aload_n 0, 1) := by decide +kernel
theorem dX0_takePoints_194 : decode cX0_takePoints 194 = .ok (.getfield 39, 3) := by decide +kernel
theorem dX0_takePoints_197 : decode cX0_takePoints 197 = .ok (.iconst 3, 1) := by decide +kernel
theorem dX0_takePoints_198 : decode cX0_takePoints 198 = .ok (.iaload, 1) := by decide +kernel
theorem dX0_takePoints_199 : decode cX0_takePoints 199 = .ok (.getstatic 126, 3) := by decide +kernel
theorem dX0_takePoints_202 : decode cX0_takePoints 202 = .ok (.iload 5, 2) := by decide +kernel
theorem dX0_takePoints_204 : decode cX0_takePoints 204 = .ok (.iaload, 1) := by decide +kernel
theorem dX0_takePoints_205 : decode cX0_takePoints 205 = .ok (.isub, 1) := by decide +kernel
theorem dX0_takePoints_206 : decode cX0_takePoints 206 = .ok (.aload_n 0, 1) := by decide +kernel
theorem dX0_takePoints_207 : decode cX0_takePoints 207 = .ok (.getfield 43, 3) := by decide +kernel
theorem dX0_takePoints_210 : decode cX0_takePoints 210 = .ok (.iconst 3, 1) := by decide +kernel
theorem dX0_takePoints_211 : decode cX0_takePoints 211 = .ok (.iaload, 1) := by decide +kernel
theorem dX0_takePoints_212 : decode cX0_takePoints 212 = .ok (.getstatic 129, 3) := by decide +kernel
theorem dX0_takePoints_215 : decode cX0_takePoints 215 = .ok (.iload 5, 2) := by decide +kernel
theorem dX0_takePoints_217 : decode cX0_takePoints 217 = .ok (.iaload, 1) := by decide +kernel
theorem dX0_takePoints_218 : decode cX0_takePoints 218 = .ok (.isub, 1) := by decide +kernel
theorem dX0_takePoints_219 : decode cX0_takePoints 219 = .ok (.invokevirtual 122, 3) := by decide +kernel
theorem dX0_takePoints_222 : decode cX0_takePoints 222 = .ok (.return_, 1) := by decide +kernel
theorem dX0_takePoint_0 : decode cX0_takePoint 0 = .ok (.iload_n 1, 1) := by decide +kernel
theorem dX0_takePoint_1 : decode cX0_takePoint 1 = .ok (.ifCond .lt 26, 3) := by decide +kernel
theorem dX0_takePoint_4 : decode cX0_takePoint 4 = .ok (.iload_n 1, 1) := by decide +kernel
theorem dX0_takePoint_5 : decode cX0_takePoint 5 = .ok (.aload_n 0, 1) := by decide +kernel
theorem dX0_takePoint_6 : decode cX0_takePoint 6 = .ok (.getfield 39, 3) := by decide +kernel
theorem dX0_takePoint_9 : decode cX0_takePoint 9 = .ok (.arraylength, 1) := by decide +kernel
theorem dX0_takePoint_10 : decode cX0_takePoint 10 = .ok (.if_icmp .ge 17, 3) := by decide +kernel
theorem dX0_takePoint_13 : decode cX0_takePoint 13 = .ok (.aload_n 0, 1) := by decide +kernel
theorem dX0_takePoint_14 : decode cX0_takePoint 14 = .ok (.getfield 39, 3) := by decide +kernel
theorem dX0_takePoint_17 : decode cX0_takePoint 17 = .ok (.iload_n 1, 1) := by decide +kernel
theorem dX0_takePoint_18 : decode cX0_takePoint 18 = .ok (.iload_n 2, 1) := by decide +kernel
theorem dX0_takePoint_19 : decode cX0_takePoint 19 = .ok (.iastore, 1) := by decide +kernel
theorem dX0_takePoint_20 : decode cX0_takePoint 20 = .ok (.aload_n 0, 1) := by decide +kernel
theorem dX0_takePoint_21 : decode cX0_takePoint 21 = .ok (.getfield 43, 3) := by decide +kernel
theorem dX0_takePoint_24 : decode cX0_takePoint 24 = .ok (.iload_n 1, 1) := by decide +kernel
theorem dX0_takePoint_25 : decode cX0_takePoint 25 = .ok (.iload_n 3, 1) := by decide +kernel
theorem dX0_takePoint_26 : decode cX0_takePoint 26 = .ok (.iastore, 1) := by decide +kernel
theorem dX0_takePoint_27 : decode cX0_takePoint 27 = .ok (.return_, 1) := by decide +kernel
theorem dX0_takeCoordinates_0 : decode cX0_takeCoordinates 0 = .ok (.iconst 0, 1) := by decide +kernel
theorem dX0_takeCoordinates_1 : decode cX0_takeCoordinates 1 = .ok (.iload_n 3, 1) := by decide +kernel
theorem dX0_takeCoordinates_2 : decode cX0_takeCoordinates 2 = .ok (.invokestatic 132, 3) := by decide +kernel
theorem dX0_takeCoordinates_5 : decode cX0_takeCoordinates 5 = .ok (.istore 4, 2) := by decide +kernel
theorem dX0_takeCoordinates_7 : decode cX0_takeCoordinates 7 = .ok (.iload 4, 2) := by decide +kernel
theorem dX0_takeCoordinates_9 : decode cX0_takeCoordinates 9 = .ok (.iload_n 3, 1) := by decide +kernel
theorem dX0_takeCoordinates_10 : decode cX0_takeCoordinates 10 = .ok (.iconst 3, 1) := by decide +kernel
theorem dX0_takeCoordinates_11 : decode cX0_takeCoordinates 11 = .ok (.iadd, 1) := by decide +kernel
theorem dX0_takeCoordinates_12 : decode cX0_takeCoordinates 12 = .ok (.if_icmp .ge 71, 3) := by decide +kernel
theorem dX0_takeCoordinates_15 : decode cX0_takeCoordinates 15 = .ok (.iload 4, 2) := by decide +kernel
theorem dX0_takeCoordinates_17 : decode cX0_takeCoordinates 17 = .ok (.aload_n 0, 1) := by decide +kernel
theorem dX0_takeCoordinates_18 : decode cX0_takeCoordinates 18 = .ok (.getfield 46, 3) := by decide +kernel
theorem dX0_takeCoordinates_21 : decode cX0_takeCoordinates 21 = .ok (.arraylength, 1) := by decide +kernel
theorem dX0_takeCoordinates_22 : decode cX0_takeCoordinates 22 = .ok (.if_icmp .ge 61, 3) := by decide +kernel
theorem dX0_takeCoordinates_25 : decode cX0_takeCoordinates 25 = .ok (.aload_n 0, 1) := by decide +kernel
theorem dX0_takeCoordinates_26 : decode cX0_takeCoordinates 26 = .ok (.getfield 46, 3) := by decide +kernel
theorem dX0_takeCoordinates_29 : decode cX0_takeCoordinates 29 = .ok (.iload 4, 2) := by decide +kernel
theorem dX0_takeCoordinates_31 : decode cX0_takeCoordinates 31 = .ok (.aload_n 1, 1) := by decide +kernel
theorem dX0_takeCoordinates_32 : decode cX0_takeCoordinates 32 = .ok (.aload_n 2, 1) := by decide +kernel
theorem dX0_takeCoordinates_33 : decode cX0_takeCoordinates 33 = .ok (.aload_n 0, 1) := by decide +kernel
theorem dX0_takeCoordinates_34 : decode cX0_takeCoordinates 34 = .ok (.getfield 39, 3) := by decide +kernel
theorem dX0_takeCoordinates_37 : decode cX0_takeCoordinates 37 = .ok (.iload 4, 2) := by decide +kernel
theorem dX0_takeCoordinates_39 : decode cX0_takeCoordinates 39 = .ok (.iaload, 1) := by decide +kernel
theorem dX0_takeCoordinates_40 : decode cX0_takeCoordinates 40 = .ok (.aload_n 0, 1) := by decide +kernel
theorem dX0_takeCoordinates_41 : decode cX0_takeCoordinates 41 = .ok (.getfield 43, 3) := by decide +kernel
theorem dX0_takeCoordinates_44 : decode cX0_takeCoordinates 44 = .ok (.iload 4, 2) := by decide +kernel
theorem dX0_takeCoordinates_46 : decode cX0_takeCoordinates 46 = .ok (.iaload, 1) := by decide +kernel
theorem dX0_takeCoordinates_47 : decode cX0_takeCoordinates 47 = .ok (.invokestatic 137, 3) := by decide +kernel
theorem dX0_takeCoordinates_50 : decode cX0_takeCoordinates 50 = .ok (.iastore, 1) := by decide +kernel
theorem dX0_takeCoordinates_51 : decode cX0_takeCoordinates 51 = .ok (.aload_n 0, 1) := by decide +kernel
theorem dX0_takeCoordinates_52 : decode cX0_takeCoordinates 52 = .ok (.getfield 49, 3) := by decide +kernel
theorem dX0_takeCoordinates_55 : decode cX0_takeCoordinates 55 = .ok (.iload 4, 2) := by decide +kernel
theorem dX0_takeCoordinates_57 : decode cX0_takeCoordinates 57 = .ok (.aload_n 1, 1) := by decide +kernel
theorem dX0_takeCoordinates_58 : decode cX0_takeCoordinates 58 = .ok (.aload_n 2, 1) := by decide +kernel
theorem dX0_takeCoordinates_59 : decode cX0_takeCoordinates 59 = .ok (.aload_n 0, 1) := by decide +kernel
theorem dX0_takeCoordinates_60 : decode cX0_takeCoordinates 60 = .ok (.getfield 39, 3) := by decide +kernel
theorem dX0_takeCoordinates_63 : decode cX0_takeCoordinates 63 = .ok (.iload 4, 2) := by decide +kernel
theorem dX0_takeCoordinates_65 : decode cX0_takeCoordinates 65 = .ok (.iaload, 1) := by decide +kernel
theorem dX0_takeCoordinates_66 : decode cX0_takeCoordinates 66 = .ok (.aload_n 0, 1) := by decide +kernel
theorem dX0_takeCoordinates_67 : decode cX0_takeCoordinates 67 = .ok (.getfield 43, 3) := by decide +kernel
theorem dX0_takeCoordinates_70 : decode cX0_takeCoordinates 70 = .ok (.iload 4, 2) := by decide +kernel
theorem dX0_takeCoordinates_72 : decode cX0_takeCoordinates 72 = .ok (.iaload, 1) := by decide +kernel
theorem dX0_takeCoordinates_73 : decode cX0_takeCoordinates 73 = .ok (.invokestatic 141, 3) := by decide +kernel
theorem dX0_takeCoordinates_76 : decode cX0_takeCoordinates 76 = .ok (.iastore, 1) := by decide +kernel
theorem dX0_takeCoordinates_77 : decode cX0_takeCoordinates 77 = .ok (.iinc 4 1, 3) := by decide +kernel
theorem dX0_takeCoordinates_80 : decode cX0_takeCoordinates 80 = .ok (.goto (-73), 3) := by decide +kernel
theorem dX0_takeCoordinates_83 : decode cX0_takeCoordinates 83 = .ok (.return_, 1) := by decide +kernel
theorem dX0_mismatch_0 : decode cX0_mismatch 0 = .ok (.aload_n 1, 1) := by decide +kernel
theorem dX0_mismatch_1 : decode cX0_mismatch 1 = .ok (.aload_n 0, 1) := by decide +kernel
theorem dX0_mismatch_2 : decode cX0_mismatch 2 = .ok (.getfield 30, 3) := by decide +kernel
theorem dX0_mismatch_5 : decode cX0_mismatch 5 = .ok (.iload_n 2, 1) := by decide +kernel
theorem dX0_mismatch_6 : decode cX0_mismatch 6 = .ok (.invokevirtual 91, 3) := by decide +kernel
theorem dX0_mismatch_9 : decode cX0_mismatch 9 = .ok (.invokevirtual 144, 3) := by decide +kernel
theorem dX0_mismatch_12 : decode cX0_mismatch 12 = .ok (.astore_n 3, 1) := by decide +kernel
theorem dX0_mismatch_13 : decode cX0_mismatch 13 = .ok (.aload_n 1, 1) := by decide +kernel
theorem dX0_mismatch_14 : decode cX0_mismatch 14 = .ok (.aload_n 0, 1) := by decide +kernel
theorem dX0_mismatch_15 : decode cX0_mismatch 15 = .ok (.getfield 30, 3) := by decide +kernel
theorem dX0_mismatch_18 : decode cX0_mismatch 18 = .ok (.iload_n 2, 1) := by decide +kernel
theorem dX0_mismatch_19 : decode cX0_mismatch 19 = .ok (.invokevirtual 100, 3) := by decide +kernel
theorem dX0_mismatch_22 : decode cX0_mismatch 22 = .ok (.invokevirtual 144, 3) := by decide +kernel
theorem dX0_mismatch_25 : decode cX0_mismatch 25 = .ok (.astore 4, 2) := by decide +kernel
theorem dX0_mismatch_27 : decode cX0_mismatch 27 = .ok (.aload_n 3, 1) := by decide +kernel
theorem dX0_mismatch_28 : decode cX0_mismatch 28 = .ok (.getfield 55, 3) := by decide +kernel
theorem dX0_mismatch_31 : decode cX0_mismatch 31 = .ok (.bipush (-9), 2) := by decide +kernel
theorem dX0_mismatch_33 : decode cX0_mismatch 33 = .ok (.if_icmp .eq 15, 3) := by decide +kernel
theorem dX0_mismatch_36 : decode cX0_mismatch 36 = .ok (.aload_n 3, 1) := by decide +kernel
theorem dX0_mismatch_37 : decode cX0_mismatch 37 = .ok (.getfield 55, 3) := by decide +kernel
theorem dX0_mismatch_40 : decode cX0_mismatch 40 = .ok (.aload 4, 2) := by decide +kernel
theorem dX0_mismatch_42 : decode cX0_mismatch 42 = .ok (.getfield 55, 3) := by decide +kernel
theorem dX0_mismatch_45 : decode cX0_mismatch 45 = .ok (.if_icmp .eq 6, 3) := by decide +kernel
theorem dX0_mismatch_48 : decode cX0_mismatch 48 = .ok (.bipush (-9), 2) := by decide +kernel
theorem dX0_mismatch_50 : decode cX0_mismatch 50 = .ok (.ireturn, 1) := by decide +kernel
theorem dX0_mismatch_51 : decode cX0_mismatch 51 = .ok (.aload_n 1, 1) := by decide +kernel
theorem dX0_mismatch_52 : decode cX0_mismatch 52 = .ok (.aload_n 3, 1) := by decide +kernel
theorem dX0_mismatch_53 : decode cX0_mismatch 53 = .ok (.aload_n 0, 1) := by decide +kernel
theorem dX0_mismatch_54 : decode cX0_mismatch 54 = .ok (.getfield 30, 3) := by decide +kernel
theorem dX0_mismatch_57 : decode cX0_mismatch 57 = .ok (.iload_n 2, 1) := by decide +kernel
theorem dX0_mismatch_58 : decode cX0_mismatch 58 = .ok (.invokevirtual 103, 3) := by decide +kernel
theorem dX0_mismatch_61 : decode cX0_mismatch 61 = .ok (.invokestatic 148, 3) := by decide +kernel
theorem dX0_mismatch_64 : decode cX0_mismatch 64 = .ok (.bipush (-9), 2) := by decide +kernel
theorem dX0_mismatch_66 : decode cX0_mismatch 66 = .ok (.if_icmp .eq 22, 3) := by decide +kernel
theorem dX0_mismatch_69 : decode cX0_mismatch 69 = .ok (.aload_n 1, 1) := by decide +kernel
theorem dX0_mismatch_70 : decode cX0_mismatch 70 = .ok (.aload 4, 2) := by decide +kernel
theorem dX0_mismatch_72 : decode cX0_mismatch 72 = .ok (.aload_n 0, 1) := by decide +kernel
theorem dX0_mismatch_73 : decode cX0_mismatch 73 = .ok (.getfield 30, 3) := by decide +kernel
theorem dX0_mismatch_76 : decode cX0_mismatch 76 = .ok (.iload_n 2, 1) := by decide +kernel
theorem dX0_mismatch_77 : decode cX0_mismatch 77 = .ok (.invokevirtual 106, 3) := by decide +kernel
theorem dX0_mismatch_80 : decode cX0_mismatch 80 = .ok (.invokestatic 148, 3) := by decide +kernel
theorem dX0_mismatch_83 : decode cX0_mismatch 83 = .ok (.bipush (-9), 2) := by decide +kernel
theorem dX0_mismatch_85 : decode cX0_mismatch 85 = .ok (.if_icmp .ne 6, 3) := by decide +kernel
theorem dX0_mismatch_88 : decode cX0_mismatch 88 = .ok (.bipush (-9), 2) := by decide +kernel
theorem dX0_mismatch_90 : decode cX0_mismatch 90 = .ok (.ireturn, 1) := by decide +kernel
theorem dX0_mismatch_91 : decode cX0_mismatch 91 = .ok (.aload_n 0, 1) := by decide +kernel
theorem dX0_mismatch_92 : decode cX0_mismatch 92 = .ok (.iload_n 2, 1) := by decide +kernel
theorem dX0_mismatch_93 : decode cX0_mismatch 93 = .ok (.invokevirtual 152, 3) := by decide +kernel
theorem dX0_mismatch_96 : decode cX0_mismatch 96 = .ok (.aload_n 0, 1) := by decide +kernel
theorem dX0_mismatch_97 : decode cX0_mismatch 97 = .ok (.aload_n 1, 1) := by decide +kernel
theorem dX0_mismatch_98 : decode cX0_mismatch 98 = .ok (.aload_n 3, 1) := by decide +kernel
theorem dX0_mismatch_99 : decode cX0_mismatch 99 = .ok (.iconst 0, 1) := by decide +kernel
theorem dX0_mismatch_100 : decode cX0_mismatch 100 = .ok (.invokevirtual 156, 3) := by decide +kernel
theorem dX0_mismatch_103 : decode cX0_mismatch 103 = .ok (.aload_n 0, 1) := by decide +kernel
theorem dX0_mismatch_104 : decode cX0_mismatch 104 = .ok (.aload_n 1, 1) := by decide +kernel
theorem dX0_mismatch_105 : decode cX0_mismatch 105 = .ok (.aload 4, 2) := by decide +kernel
theorem dX0_mismatch_107 : decode cX0_mismatch 107 = .ok (.iconst 3, 1) := by decide +kernel
theorem dX0_mismatch_108 : decode cX0_mismatch 108 = .ok (.invokevirtual 156, 3) := by decide +kernel
theorem dX0_mismatch_111 : decode cX0_mismatch 111 = .ok (.iconst 0, 1) := by decide +kernel
theorem dX0_mismatch_112 : decode cX0_mismatch 112 = .ok (.istore 5, 2) := by decide +kernel
theorem dX0_mismatch_114 : decode cX0_mismatch 114 = .ok (.iconst 0, 1) := by decide +kernel
theorem dX0_mismatch_115 : decode cX0_mismatch 115 = .ok (.istore 6, 2) := by decide +kernel
theorem dX0_mismatch_117 : decode cX0_mismatch 117 = .ok (.iload 6, 2) := by decide +kernel
theorem dX0_mismatch_119 : decode cX0_mismatch 119 = .ok (.iconst 2, 1) := by decide +kernel
theorem dX0_mismatch_120 : decode cX0_mismatch 120 = .ok (.if_icmp .ge 63, 3) := by decide +kernel
theorem dX0_mismatch_123 : decode cX0_mismatch 123 = .ok (.iload 5, 2) := by decide +kernel
theorem dX0_mismatch_125 : decode cX0_mismatch 125 = .ok (.aload_n 0, 1) := by decide +kernel
theorem dX0_mismatch_126 : decode cX0_mismatch 126 = .ok (.getfield 46, 3) := by decide +kernel
theorem dX0_mismatch_129 : decode cX0_mismatch 129 = .ok (.iload 6, 2) := by decide +kernel
theorem dX0_mismatch_131 : decode cX0_mismatch 131 = .ok (.iaload, 1) := by decide +kernel
theorem dX0_mismatch_132 : decode cX0_mismatch 132 = .ok (.aload_n 0, 1) := by decide +kernel
theorem dX0_mismatch_133 : decode cX0_mismatch 133 = .ok (.getfield 46, 3) := by decide +kernel
theorem dX0_mismatch_136 : decode cX0_mismatch 136 = .ok (.iload 6, 2) := by decide +kernel
theorem dX0_mismatch_138 : decode cX0_mismatch 138 = .ok (.iconst 3, 1) := by decide +kernel
theorem dX0_mismatch_139 : decode cX0_mismatch 139 = .ok (.iadd, 1) := by decide +kernel
theorem dX0_mismatch_140 : decode cX0_mismatch 140 = .ok (.iaload, 1) := by decide +kernel
theorem dX0_mismatch_141 : decode cX0_mismatch 141 = .ok (.isub, 1) := by decide +kernel
theorem dX0_mismatch_142 : decode cX0_mismatch 142 = .ok (.invokestatic 160, 3) := by decide +kernel
theorem dX0_mismatch_145 : decode cX0_mismatch 145 = .ok (.invokestatic 132, 3) := by decide +kernel
theorem dX0_mismatch_148 : decode cX0_mismatch 148 = .ok (.istore 5, 2) := by decide +kernel
theorem dX0_mismatch_150 : decode cX0_mismatch 150 = .ok (.iload 5, 2) := by decide +kernel
theorem dX0_mismatch_152 : decode cX0_mismatch 152 = .ok (.aload_n 0, 1) := by decide +kernel
theorem dX0_mismatch_153 : decode cX0_mismatch 153 = .ok (.getfield 49, 3) := by decide +kernel
theorem dX0_mismatch_156 : decode cX0_mismatch 156 = .ok (.iload 6, 2) := by decide +kernel
theorem dX0_mismatch_158 : decode cX0_mismatch 158 = .ok (.iaload, 1) := by decide +kernel
theorem dX0_mismatch_159 : decode cX0_mismatch 159 = .ok (.aload_n 0, 1) := by decide +kernel
theorem dX0_mismatch_160 : decode cX0_mismatch 160 = .ok (.getfield 49, 3) := by decide +kernel
theorem dX0_mismatch_163 : decode cX0_mismatch 163 = .ok (.iload 6, 2) := by decide +kernel
theorem dX0_mismatch_165 : decode cX0_mismatch 165 = .ok (.iconst 3, 1) := by decide +kernel
theorem dX0_mismatch_166 : decode cX0_mismatch 166 = .ok (.iadd, 1) := by decide +kernel
theorem dX0_mismatch_167 : decode cX0_mismatch 167 = .ok (.iaload, 1) := by decide +kernel
theorem dX0_mismatch_168 : decode cX0_mismatch 168 = .ok (.isub, 1) := by decide +kernel
theorem dX0_mismatch_169 : decode cX0_mismatch 169 = .ok (.invokestatic 160, 3) := by decide +kernel
theorem dX0_mismatch_172 : decode cX0_mismatch 172 = .ok (.invokestatic 132, 3) := by decide +kernel
theorem dX0_mismatch_175 : decode cX0_mismatch 175 = .ok (.istore 5, 2) := by decide +kernel
theorem dX0_mismatch_177 : decode cX0_mismatch 177 = .ok (.iinc 6 1, 3) := by decide +kernel
theorem dX0_mismatch_180 : decode cX0_mismatch 180 = .ok (.goto (-63), 3) := by decide +kernel
theorem dX0_mismatch_183 : decode cX0_mismatch 183 = .ok (.aload_n 0, 1) := by decide +kernel
theorem dX0_mismatch_184 : decode cX0_mismatch 184 = .ok (.getfield 46, 3) := by decide +kernel
theorem dX0_mismatch_187 : decode cX0_mismatch 187 = .ok (.iconst 2, 1) := by decide +kernel
theorem dX0_mismatch_188 : decode cX0_mismatch 188 = .ok (.iaload, 1) := by decide +kernel
theorem dX0_mismatch_189 : decode cX0_mismatch 189 = .ok (.aload_n 0, 1) := by decide +kernel
theorem dX0_mismatch_190 : decode cX0_mismatch 190 = .ok (.getfield 46, 3) := by decide +kernel
theorem dX0_mismatch_193 : decode cX0_mismatch 193 = .ok (.iconst 0, 1) := by decide +kernel
theorem dX0_mismatch_194 : decode cX0_mismatch 194 = .ok (.iaload, 1) := by decide +kernel
theorem dX0_mismatch_195 : decode cX0_mismatch 195 = .ok (.isub, 1) := by decide +kernel
theorem dX0_mismatch_196 : decode cX0_mismatch 196 = .ok (.aload_n 0, 1) := by decide +kernel
theorem dX0_mismatch_197 : decode cX0_mismatch 197 = .ok (.getfield 46, 3) := by decide +kernel
theorem dX0_mismatch_200 : decode cX0_mismatch 200 = .ok (.iconst 5, 1) := by decide +kernel
theorem dX0_mismatch_201 : decode cX0_mismatch 201 = .ok (.iaload, 1) := by decide +kernel
theorem dX0_mismatch_202 : decode cX0_mismatch 202 = .ok (.aload_n 0, 1) := by decide +kernel
theorem dX0_mismatch_203 : decode cX0_mismatch 203 = .ok (.getfield 46, 3) := by decide +kernel
theorem dX0_mismatch_206 : decode cX0_mismatch 206 = .ok (.iconst 3, 1) := by decide +kernel
theorem dX0_mismatch_207 : decode cX0_mismatch 207 = .ok (.iaload, 1) := by decide +kernel
theorem dX0_mismatch_208 : decode cX0_mismatch 208 = .ok (.isub, 1) := by decide +kernel
theorem dX0_mismatch_209 : decode cX0_mismatch 209 = .ok (.if_icmp .ne 36, 3) := by decide +kernel
theorem dX0_mismatch_212 : decode cX0_mismatch 212 = .ok (.aload_n 0, 1) := by decide +kernel
theorem dX0_mismatch_213 : decode cX0_mismatch 213 = .ok (.getfield 49, 3) := by decide +kernel
theorem dX0_mismatch_216 : decode cX0_mismatch 216 = .ok (.iconst 2, 1) := by decide +kernel
theorem dX0_mismatch_217 : decode cX0_mismatch 217 = .ok (.iaload, 1) := by decide +kernel
theorem dX0_mismatch_218 : decode cX0_mismatch 218 = .ok (.aload_n 0, 1) := by decide +kernel
theorem dX0_mismatch_219 : decode cX0_mismatch 219 = .ok (.getfield 49, 3) := by decide +kernel
theorem dX0_mismatch_222 : decode cX0_mismatch 222 = .ok (.iconst 0, 1) := by decide +kernel
theorem dX0_mismatch_223 : decode cX0_mismatch 223 = .ok (.iaload, 1) := by decide +kernel
theorem dX0_mismatch_224 : decode cX0_mismatch 224 = .ok (.isub, 1) := by decide +kernel
theorem dX0_mismatch_225 : decode cX0_mismatch 225 = .ok (.aload_n 0, 1) := by decide +kernel
theorem dX0_mismatch_226 : decode cX0_mismatch 226 = .ok (.getfield 49, 3) := by decide +kernel
theorem dX0_mismatch_229 : decode cX0_mismatch 229 = .ok (.iconst 5, 1) := by decide +kernel
theorem dX0_mismatch_230 : decode cX0_mismatch 230 = .ok (.iaload, 1) := by decide +kernel
theorem dX0_mismatch_231 : decode cX0_mismatch 231 = .ok (.aload_n 0, 1) := by decide +kernel
theorem dX0_mismatch_232 : decode cX0_mismatch 232 = .ok (.getfield 49, 3) := by decide +kernel
theorem dX0_mismatch_235 : decode cX0_mismatch 235 = .ok (.iconst 3, 1) := by decide +kernel
theorem dX0_mismatch_236 : decode cX0_mismatch 236 = .ok (.iaload, 1) := by decide +kernel
theorem dX0_mismatch_237 : decode cX0_mismatch 237 = .ok (.isub, 1) := by decide +kernel
theorem dX0_mismatch_238 : decode cX0_mismatch 238 = .ok (.if_icmp .ne 7, 3) := by decide +kernel
theorem dX0_mismatch_241 : decode cX0_mismatch 241 = .ok (.iconst 1, 1) := by decide +kernel
theorem dX0_mismatch_242 : decode cX0_mismatch 242 = .ok (.goto 4, 3) := by decide +kernel
theorem dX0_mismatch_245 : decode cX0_mismatch 245 = .ok (.iconst 0, 1) := by decide +kernel
theorem dX0_mismatch_246 : decode cX0_mismatch 246 = .ok (.istore 6, 2) := by decide +kernel
theorem dX0_mismatch_248 : decode cX0_mismatch 248 = .ok (.iload 6, 2) := by decide +kernel
theorem dX0_mismatch_250 : decode cX0_mismatch 250 = .ok (.ifCond .eq 8, 3) := by decide +kernel
theorem dX0_mismatch_253 : decode cX0_mismatch 253 = .ok (.iload 5, 2) := by decide +kernel
theorem dX0_mismatch_255 : decode cX0_mismatch 255 = .ok (.goto 10, 3) := by decide +kernel
theorem dX0_mismatch_258 : decode cX0_mismatch 258 = .ok (.bipush 100, 2) := by decide +kernel
theorem dX0_mismatch_260 : decode cX0_mismatch 260 = .ok (.iload 5, 2) := by decide +kernel
theorem dX0_mismatch_262 : decode cX0_mismatch 262 = .ok (.invokestatic 132, 3) := by decide +kernel
theorem dX0_mismatch_265 : decode cX0_mismatch 265 = .ok (.ireturn, 1) := by decide +kernel
theorem dX0_plan_0 : decode cX0_plan 0 = .ok (.iload_n 3, 1) := by decide +kernel
theorem dX0_plan_1 : decode cX0_plan 1 = .ok (.ifCond .eq 14, 3) := by decide +kernel
theorem dX0_plan_4 : decode cX0_plan 4 = .ok (.aload_n 0, 1) := by decide +kernel
theorem dX0_plan_5 : decode cX0_plan 5 = .ok (.getfield 30, 3) := by decide +kernel
theorem dX0_plan_8 : decode cX0_plan 8 = .ok (.iload_n 2, 1) := by decide +kernel
theorem dX0_plan_9 : decode cX0_plan 9 = .ok (.invokevirtual 100, 3) := by decide +kernel
theorem dX0_plan_12 : decode cX0_plan 12 = .ok (.goto 11, 3) := by decide +kernel
theorem dX0_plan_15 : decode cX0_plan 15 = .ok (.aload_n 0, 1) := by decide +kernel
theorem dX0_plan_16 : decode cX0_plan 16 = .ok (.getfield 30, 3) := by decide +kernel
theorem dX0_plan_19 : decode cX0_plan 19 = .ok (.iload_n 2, 1) := by decide +kernel
theorem dX0_plan_20 : decode cX0_plan 20 = .ok (.invokevirtual 91, 3) := by decide +kernel
theorem dX0_plan_23 : decode cX0_plan 23 = .ok (.istore 4, 2) := by decide +kernel
theorem dX0_plan_25 : decode cX0_plan 25 = .ok (.aload_n 1, 1) := by decide +kernel
theorem dX0_plan_26 : decode cX0_plan 26 = .ok (.iload 4, 2) := by decide +kernel
theorem dX0_plan_28 : decode cX0_plan 28 = .ok (.invokevirtual 144, 3) := by decide +kernel
theorem dX0_plan_31 : decode cX0_plan 31 = .ok (.astore 5, 2) := by decide +kernel
theorem dX0_plan_33 : decode cX0_plan 33 = .ok (.iload_n 3, 1) := by decide +kernel
theorem dX0_plan_34 : decode cX0_plan 34 = .ok (.ifCond .eq 14, 3) := by decide +kernel
theorem dX0_plan_37 : decode cX0_plan 37 = .ok (.aload_n 0, 1) := by decide +kernel
theorem dX0_plan_38 : decode cX0_plan 38 = .ok (.getfield 30, 3) := by decide +kernel
theorem dX0_plan_41 : decode cX0_plan 41 = .ok (.iload_n 2, 1) := by decide +kernel
theorem dX0_plan_42 : decode cX0_plan 42 = .ok (.invokevirtual 106, 3) := by decide +kernel
theorem dX0_plan_45 : decode cX0_plan 45 = .ok (.goto 11, 3) := by decide +kernel
theorem dX0_plan_48 : decode cX0_plan 48 = .ok (.aload_n 0, 1) := by decide +kernel
theorem dX0_plan_49 : decode cX0_plan 49 = .ok (.getfield 30, 3) := by decide +kernel
theorem dX0_plan_52 : decode cX0_plan 52 = .ok (.iload_n 2, 1) := by decide +kernel
theorem dX0_plan_53 : decode cX0_plan 53 = .ok (.invokevirtual 103, 3) := by decide +kernel
theorem dX0_plan_56 : decode cX0_plan 56 = .ok (.istore 6, 2) := by decide +kernel
theorem dX0_plan_58 : decode cX0_plan 58 = .ok (.aload_n 1, 1) := by decide +kernel
theorem dX0_plan_59 : decode cX0_plan 59 = .ok (.aload 5, 2) := by decide +kernel
theorem dX0_plan_61 : decode cX0_plan 61 = .ok (.iload 6, 2) := by decide +kernel
theorem dX0_plan_63 : decode cX0_plan 63 = .ok (.invokestatic 148, 3) := by decide +kernel
theorem dX0_plan_66 : decode cX0_plan 66 = .ok (.bipush (-9), 2) := by decide +kernel
theorem dX0_plan_68 : decode cX0_plan 68 = .ok (.if_icmp .ne 5, 3) := by decide +kernel
theorem dX0_plan_71 : decode cX0_plan 71 = .ok (.iconst 0, 1) := by decide +kernel
theorem dX0_plan_72 : decode cX0_plan 72 = .ok (.ireturn, 1) := by decide +kernel
theorem dX0_plan_73 : decode cX0_plan 73 = .ok (.aload_n 0, 1) := by decide +kernel
theorem dX0_plan_74 : decode cX0_plan 74 = .ok (.iload_n 3, 1) := by decide +kernel
theorem dX0_plan_75 : decode cX0_plan 75 = .ok (.ifCond .eq 14, 3) := by decide +kernel
theorem dX0_plan_78 : decode cX0_plan 78 = .ok (.aload_n 0, 1) := by decide +kernel
theorem dX0_plan_79 : decode cX0_plan 79 = .ok (.getfield 30, 3) := by decide +kernel
theorem dX0_plan_82 : decode cX0_plan 82 = .ok (.iload_n 2, 1) := by decide +kernel
theorem dX0_plan_83 : decode cX0_plan 83 = .ok (.invokevirtual 91, 3) := by decide +kernel
theorem dX0_plan_86 : decode cX0_plan 86 = .ok (.goto 11, 3) := by decide +kernel
theorem dX0_plan_89 : decode cX0_plan 89 = .ok (.aload_n 0, 1) := by decide +kernel
theorem dX0_plan_90 : decode cX0_plan 90 = .ok (.getfield 30, 3) := by decide +kernel
theorem dX0_plan_93 : decode cX0_plan 93 = .ok (.iload_n 2, 1) := by decide +kernel
theorem dX0_plan_94 : decode cX0_plan 94 = .ok (.invokevirtual 100, 3) := by decide +kernel
theorem dX0_plan_97 : decode cX0_plan 97 = .ok (.putfield 21, 3) := by decide +kernel
theorem dX0_plan_100 : decode cX0_plan 100 = .ok (.aload_n 0, 1) := by decide +kernel
theorem dX0_plan_101 : decode cX0_plan 101 = .ok (.aload 5, 2) := by decide +kernel
theorem dX0_plan_103 : decode cX0_plan 103 = .ok (.getfield 55, 3) := by decide +kernel
theorem dX0_plan_106 : decode cX0_plan 106 = .ok (.putfield 24, 3) := by decide +kernel
theorem dX0_plan_109 : decode cX0_plan 109 = .ok (.aload_n 0, 1) := by decide +kernel
theorem dX0_plan_110 : decode cX0_plan 110 = .ok (.iload_n 2, 1) := by decide +kernel
theorem dX0_plan_111 : decode cX0_plan 111 = .ok (.invokevirtual 152, 3) := by decide +kernel
theorem dX0_plan_114 : decode cX0_plan 114 = .ok (.aload_n 0, 1) := by decide +kernel
theorem dX0_plan_115 : decode cX0_plan 115 = .ok (.aload_n 1, 1) := by decide +kernel
theorem dX0_plan_116 : decode cX0_plan 116 = .ok (.aload 5, 2) := by decide +kernel
theorem dX0_plan_118 : decode cX0_plan 118 = .ok (.iload_n 3, 1) := by decide +kernel
theorem dX0_plan_119 : decode cX0_plan 119 = .ok (.ifCond .eq 7, 3) := by decide +kernel
theorem dX0_plan_122 : decode cX0_plan 122 = .ok (.iconst 3, 1) := by decide +kernel
theorem dX0_plan_123 : decode cX0_plan 123 = .ok (.goto 4, 3) := by decide +kernel
theorem dX0_plan_126 : decode cX0_plan 126 = .ok (.iconst 0, 1) := by decide +kernel
theorem dX0_plan_127 : decode cX0_plan 127 = .ok (.invokevirtual 156, 3) := by decide +kernel
theorem dX0_plan_130 : decode cX0_plan 130 = .ok (.iconst 0, 1) := by decide +kernel
theorem dX0_plan_131 : decode cX0_plan 131 = .ok (.istore 7, 2) := by decide +kernel
theorem dX0_plan_133 : decode cX0_plan 133 = .ok (.iload 7, 2) := by decide +kernel
theorem dX0_plan_135 : decode cX0_plan 135 = .ok (.bipush 8, 2) := by decide +kernel
theorem dX0_plan_137 : decode cX0_plan 137 = .ok (.if_icmp .ge 52, 3) := by decide +kernel
theorem dX0_plan_140 : decode cX0_plan 140 = .ok (.aload_n 0, 1) := by decide +kernel
theorem dX0_plan_141 : decode cX0_plan 141 = .ok (.aload_n 1, 1) := by decide +kernel
theorem dX0_plan_142 : decode cX0_plan 142 = .ok (.iload 7, 2) := by decide +kernel
theorem dX0_plan_144 : decode cX0_plan 144 = .ok (.iload_n 3, 1) := by decide +kernel
theorem dX0_plan_145 : decode cX0_plan 145 = .ok (.invokevirtual 163, 3) := by decide +kernel
theorem dX0_plan_148 : decode cX0_plan 148 = .ok (.ifCond .eq 35, 3) := by decide +kernel
theorem dX0_plan_151 : decode cX0_plan 151 = .ok (.aload_n 0, 1) := by decide +kernel
theorem dX0_plan_152 : decode cX0_plan 152 = .ok (.iload 7, 2) := by decide +kernel
theorem dX0_plan_154 : decode cX0_plan 154 = .ok (.putfield 9, 3) := by decide +kernel
theorem dX0_plan_157 : decode cX0_plan 157 = .ok (.aload_n 0, 1) := by decide +kernel
theorem dX0_plan_158 : decode cX0_plan 158 = .ok (.getfield 15, 3) := by decide +kernel
theorem dX0_plan_161 : decode cX0_plan 161 = .ok (.invokestatic 167, 3) := by decide +kernel
theorem dX0_plan_164 : decode cX0_plan 164 = .ok (.ifCond .eq 17, 3) := by decide +kernel
theorem dX0_plan_167 : decode cX0_plan 167 = .ok (.aload_n 0, 1) := by decide +kernel
theorem dX0_plan_168 : decode cX0_plan 168 = .ok (.getfield 18, 3) := by decide +kernel
theorem dX0_plan_171 : decode cX0_plan 171 = .ok (.invokestatic 167, 3) := by decide +kernel
theorem dX0_plan_174 : decode cX0_plan 174 = .ok (.ifCond .eq 7, 3) := by decide +kernel
theorem dX0_plan_177 : decode cX0_plan 177 = .ok (.iconst 1, 1) := by decide +kernel
theorem dX0_plan_178 : decode cX0_plan 178 = .ok (.goto 4, 3) := by decide +kernel
theorem dX0_plan_181 : decode cX0_plan 181 = .ok (.iconst 0, 1) := by decide +kernel
theorem dX0_plan_182 : decode cX0_plan 182 = .ok (.ireturn, 1) := by decide +kernel
theorem dX0_plan_183 : decode cX0_plan 183 = .ok (.iinc 7 1, 3) := by decide +kernel
theorem dX0_plan_186 : decode cX0_plan 186 = .ok (.goto (-53), 3) := by decide +kernel
theorem dX0_plan_189 : decode cX0_plan 189 = .ok (.iconst 0, 1) := by decide +kernel
theorem dX0_plan_190 : decode cX0_plan 190 = .ok (.ireturn, 1) := by decide +kernel
theorem dX0_agrees_0 : decode cX0_agrees 0 = .ok (.iload_n 3, 1) := by decide +kernel
theorem dX0_agrees_1 : decode cX0_agrees 1 = .ok (.ifCond .eq 7, 3) := by decide +kernel
theorem dX0_agrees_4 : decode cX0_agrees 4 = .ok (.iconst 3, 1) := by decide +kernel
theorem dX0_agrees_5 : decode cX0_agrees 5 = .ok (.goto 4, 3) := by decide +kernel
theorem dX0_agrees_8 : decode cX0_agrees 8 = .ok (.iconst 0, 1) := by decide +kernel
theorem dX0_agrees_9 : decode cX0_agrees 9 = .ok (.istore 4, 2) := by decide +kernel
theorem dX0_agrees_11 : decode cX0_agrees 11 = .ok (.iconst 3, 1) := by decide +kernel
theorem dX0_agrees_12 : decode cX0_agrees 12 = .ok (.iload 4, 2) := by decide +kernel
theorem dX0_agrees_14 : decode cX0_agrees 14 = .ok (.isub, 1) := by decide +kernel
theorem dX0_agrees_15 : decode cX0_agrees 15 = .ok (.istore 5, 2) := by decide +kernel
theorem dX0_agrees_17 : decode cX0_agrees 17 = .ok (.aload_n 1, 1) := by decide +kernel
theorem dX0_agrees_18 : decode cX0_agrees 18 = .ok (.aload_n 0, 1) := by decide +kernel
theorem dX0_agrees_19 : decode cX0_agrees 19 = .ok (.getfield 24, 3) := by decide +kernel
theorem dX0_agrees_22 : decode cX0_agrees 22 = .ok (.invokevirtual 56, 3) := by decide +kernel
theorem dX0_agrees_25 : decode cX0_agrees 25 = .ok (.istore 6, 2) := by decide +kernel
theorem dX0_agrees_27 : decode cX0_agrees 27 = .ok (.aload_n 1, 1) := by decide +kernel
theorem dX0_agrees_28 : decode cX0_agrees 28 = .ok (.aload_n 0, 1) := by decide +kernel
theorem dX0_agrees_29 : decode cX0_agrees 29 = .ok (.getfield 24, 3) := by decide +kernel
theorem dX0_agrees_32 : decode cX0_agrees 32 = .ok (.invokevirtual 68, 3) := by decide +kernel
theorem dX0_agrees_35 : decode cX0_agrees 35 = .ok (.istore 7, 2) := by decide +kernel
theorem dX0_agrees_37 : decode cX0_agrees 37 = .ok (.aload_n 0, 1) := by decide +kernel
theorem dX0_agrees_38 : decode cX0_agrees 38 = .ok (.aload_n 0, 1) := by decide +kernel
theorem dX0_agrees_39 : decode cX0_agrees 39 = .ok (.getfield 39, 3) := by decide +kernel
theorem dX0_agrees_42 : decode cX0_agrees 42 = .ok (.iload 5, 2) := by decide +kernel
theorem dX0_agrees_44 : decode cX0_agrees 44 = .ok (.iaload, 1) := by decide +kernel
theorem dX0_agrees_45 : decode cX0_agrees 45 = .ok (.iload_n 2, 1) := by decide +kernel
theorem dX0_agrees_46 : decode cX0_agrees 46 = .ok (.iload 6, 2) := by decide +kernel
theorem dX0_agrees_48 : decode cX0_agrees 48 = .ok (.iload 7, 2) := by decide +kernel
theorem dX0_agrees_50 : decode cX0_agrees 50 = .ok (.aload_n 0, 1) := by decide +kernel
theorem dX0_agrees_51 : decode cX0_agrees 51 = .ok (.getfield 46, 3) := by decide +kernel
theorem dX0_agrees_54 : decode cX0_agrees 54 = .ok (.iload 4, 2) := by decide +kernel
theorem dX0_agrees_56 : decode cX0_agrees 56 = .ok (.iaload, 1) := by decide +kernel
theorem dX0_agrees_57 : decode cX0_agrees 57 = .ok (.aload_n 0, 1) := by decide +kernel
theorem dX0_agrees_58 : decode cX0_agrees 58 = .ok (.getfield 49, 3) := by decide +kernel
theorem dX0_agrees_61 : decode cX0_agrees 61 = .ok (.iload 4, 2) := by decide +kernel
theorem dX0_agrees_63 : decode cX0_agrees 63 = .ok (.iaload, 1) := by decide +kernel
theorem dX0_agrees_64 : decode cX0_agrees 64 = .ok (.invokestatic 171, 3) := by decide +kernel
theorem dX0_agrees_67 : decode cX0_agrees 67 = .ok (.isub, 1) := by decide +kernel
theorem dX0_agrees_68 : decode cX0_agrees 68 = .ok (.putfield 15, 3) := by decide +kernel
theorem dX0_agrees_71 : decode cX0_agrees 71 = .ok (.aload_n 0, 1) := by decide +kernel
theorem dX0_agrees_72 : decode cX0_agrees 72 = .ok (.aload_n 0, 1) := by decide +kernel
theorem dX0_agrees_73 : decode cX0_agrees 73 = .ok (.getfield 43, 3) := by decide +kernel
theorem dX0_agrees_76 : decode cX0_agrees 76 = .ok (.iload 5, 2) := by decide +kernel
theorem dX0_agrees_78 : decode cX0_agrees 78 = .ok (.iaload, 1) := by decide +kernel
theorem dX0_agrees_79 : decode cX0_agrees 79 = .ok (.iload_n 2, 1) := by decide +kernel
theorem dX0_agrees_80 : decode cX0_agrees 80 = .ok (.iload 6, 2) := by decide +kernel
theorem dX0_agrees_82 : decode cX0_agrees 82 = .ok (.iload 7, 2) := by decide +kernel
theorem dX0_agrees_84 : decode cX0_agrees 84 = .ok (.aload_n 0, 1) := by decide +kernel
theorem dX0_agrees_85 : decode cX0_agrees 85 = .ok (.getfield 46, 3) := by decide +kernel
theorem dX0_agrees_88 : decode cX0_agrees 88 = .ok (.iload 4, 2) := by decide +kernel
theorem dX0_agrees_90 : decode cX0_agrees 90 = .ok (.iaload, 1) := by decide +kernel
theorem dX0_agrees_91 : decode cX0_agrees 91 = .ok (.aload_n 0, 1) := by decide +kernel
theorem dX0_agrees_92 : decode cX0_agrees 92 = .ok (.getfield 49, 3) := by decide +kernel
theorem dX0_agrees_95 : decode cX0_agrees 95 = .ok (.iload 4, 2) := by decide +kernel
theorem dX0_agrees_97 : decode cX0_agrees 97 = .ok (.iaload, 1) := by decide +kernel
theorem dX0_agrees_98 : decode cX0_agrees 98 = .ok (.invokestatic 175, 3) := by decide +kernel
theorem dX0_agrees_101 : decode cX0_agrees 101 = .ok (.isub, 1) := by decide +kernel
theorem dX0_agrees_102 : decode cX0_agrees 102 = .ok (.putfield 18, 3) := by decide +kernel
theorem dX0_agrees_105 : decode cX0_agrees 105 = .ok (.iconst 1, 1) := by decide +kernel
theorem dX0_agrees_106 : decode cX0_agrees 106 = .ok (.istore 8, 2) := by decide +kernel
theorem dX0_agrees_108 : decode cX0_agrees 108 = .ok (.iload 8, 2) := by decide +kernel
theorem dX0_agrees_110 : decode cX0_agrees 110 = .ok (.iconst 3, 1) := by decide +kernel
theorem dX0_agrees_111 : decode cX0_agrees 111 = .ok (.if_icmp .ge 91, 3) := by decide +kernel
theorem dX0_agrees_114 : decode cX0_agrees 114 = .ok (.aload_n 0, 1) := by decide +kernel
theorem dX0_agrees_115 : decode cX0_agrees 115 = .ok (.getfield 39, 3) := by decide +kernel
theorem dX0_agrees_118 : decode cX0_agrees 118 = .ok (.iload 5, 2) := by decide +kernel
theorem dX0_agrees_120 : decode cX0_agrees 120 = .ok (.iload 8, 2) := by decide +kernel
theorem dX0_agrees_122 : decode cX0_agrees 122 = .ok (.iadd, 1) := by decide +kernel
theorem dX0_agrees_123 : decode cX0_agrees 123 = .ok (.iaload, 1) := by decide +kernel
theorem dX0_agrees_124 : decode cX0_agrees 124 = .ok (.aload_n 0, 1) := by decide +kernel
theorem dX0_agrees_125 : decode cX0_agrees 125 = .ok (.getfield 15, 3) := by decide +kernel
theorem dX0_agrees_128 : decode cX0_agrees 128 = .ok (.isub, 1) := by decide +kernel
theorem dX0_agrees_129 : decode cX0_agrees 129 = .ok (.istore 9, 2) := by decide +kernel
theorem dX0_agrees_131 : decode cX0_agrees 131 = .ok (.aload_n 0, 1) := by decide +kernel
theorem dX0_agrees_132 : decode cX0_agrees 132 = .ok (.getfield 43, 3) := by decide +kernel
theorem dX0_agrees_135 : decode cX0_agrees 135 = .ok (.iload 5, 2) := by decide +kernel
theorem dX0_agrees_137 : decode cX0_agrees 137 = .ok (.iload 8, 2) := by decide +kernel
theorem dX0_agrees_139 : decode cX0_agrees 139 = .ok (.iadd, 1) := by decide +kernel
theorem dX0_agrees_140 : decode cX0_agrees 140 = .ok (.iaload, 1) := by decide +kernel
theorem dX0_agrees_141 : decode cX0_agrees 141 = .ok (.aload_n 0, 1) := by decide +kernel
theorem dX0_agrees_142 : decode cX0_agrees 142 = .ok (.getfield 18, 3) := by decide +kernel
theorem dX0_agrees_145 : decode cX0_agrees 145 = .ok (.isub, 1) := by decide +kernel
theorem dX0_agrees_146 : decode cX0_agrees 146 = .ok (.istore 10, 2) := by decide +kernel
theorem dX0_agrees_148 : decode cX0_agrees 148 = .ok (.iload_n 2, 1) := by decide +kernel
theorem dX0_agrees_149 : decode cX0_agrees 149 = .ok (.iload 6, 2) := by decide +kernel
theorem dX0_agrees_151 : decode cX0_agrees 151 = .ok (.iload 9, 2) := by decide +kernel
theorem dX0_agrees_153 : decode cX0_agrees 153 = .ok (.iload 10, 2) := by decide +kernel
theorem dX0_agrees_155 : decode cX0_agrees 155 = .ok (.invokestatic 64, 3) := by decide +kernel
theorem dX0_agrees_158 : decode cX0_agrees 158 = .ok (.aload_n 0, 1) := by decide +kernel
theorem dX0_agrees_159 : decode cX0_agrees 159 = .ok (.getfield 46, 3) := by decide +kernel
theorem dX0_agrees_162 : decode cX0_agrees 162 = .ok (.iload 4, 2) := by decide +kernel
theorem dX0_agrees_164 : decode cX0_agrees 164 = .ok (.iload 8, 2) := by decide +kernel
theorem dX0_agrees_166 : decode cX0_agrees 166 = .ok (.iadd, 1) := by decide +kernel
theorem dX0_agrees_167 : decode cX0_agrees 167 = .ok (.iaload, 1) := by decide +kernel
theorem dX0_agrees_168 : decode cX0_agrees 168 = .ok (.if_icmp .ne 26, 3) := by decide +kernel
theorem dX0_agrees_171 : decode cX0_agrees 171 = .ok (.iload_n 2, 1) := by decide +kernel
theorem dX0_agrees_172 : decode cX0_agrees 172 = .ok (.iload 7, 2) := by decide +kernel
theorem dX0_agrees_174 : decode cX0_agrees 174 = .ok (.iload 9, 2) := by decide +kernel
theorem dX0_agrees_176 : decode cX0_agrees 176 = .ok (.iload 10, 2) := by decide +kernel
theorem dX0_agrees_178 : decode cX0_agrees 178 = .ok (.invokestatic 71, 3) := by decide +kernel
theorem dX0_agrees_181 : decode cX0_agrees 181 = .ok (.aload_n 0, 1) := by decide +kernel
theorem dX0_agrees_182 : decode cX0_agrees 182 = .ok (.getfield 49, 3) := by decide +kernel
theorem dX0_agrees_185 : decode cX0_agrees 185 = .ok (.iload 4, 2) := by decide +kernel
theorem dX0_agrees_187 : decode cX0_agrees 187 = .ok (.iload 8, 2) := by decide +kernel
theorem dX0_agrees_189 : decode cX0_agrees 189 = .ok (.iadd, 1) := by decide +kernel
theorem dX0_agrees_190 : decode cX0_agrees 190 = .ok (.iaload, 1) := by decide +kernel
theorem dX0_agrees_191 : decode cX0_agrees 191 = .ok (.if_icmp .eq 5, 3) := by decide +kernel
theorem dX0_agrees_194 : decode cX0_agrees 194 = .ok (.iconst 0, 1) := by decide +kernel
theorem dX0_agrees_195 : decode cX0_agrees 195 = .ok (.ireturn, 1) := by decide +kernel
theorem dX0_agrees_196 : decode cX0_agrees 196 = .ok (.iinc 8 1, 3) := by decide +kernel
theorem dX0_agrees_199 : decode cX0_agrees 199 = .ok (.goto (-91), 3) := by decide +kernel
theorem dX0_agrees_202 : decode cX0_agrees 202 = .ok (.iconst 1, 1) := by decide +kernel
theorem dX0_agrees_203 : decode cX0_agrees 203 = .ok (.ireturn, 1) := by decide +kernel
theorem dX0_carryOut_0 : decode cX0_carryOut 0 = .ok (.aload_n 1, 1) := by decide +kernel
theorem dX0_carryOut_1 : decode cX0_carryOut 1 = .ok (.aload_n 0, 1) := by decide +kernel
theorem dX0_carryOut_2 : decode cX0_carryOut 2 = .ok (.getfield 21, 3) := by decide +kernel
theorem dX0_carryOut_5 : decode cX0_carryOut 5 = .ok (.aload_n 0, 1) := by decide +kernel
theorem dX0_carryOut_6 : decode cX0_carryOut 6 = .ok (.getfield 24, 3) := by decide +kernel
theorem dX0_carryOut_9 : decode cX0_carryOut 9 = .ok (.aload_n 0, 1) := by decide +kernel
theorem dX0_carryOut_10 : decode cX0_carryOut 10 = .ok (.getfield 9, 3) := by decide +kernel
theorem dX0_carryOut_13 : decode cX0_carryOut 13 = .ok (.aload_n 0, 1) := by decide +kernel
theorem dX0_carryOut_14 : decode cX0_carryOut 14 = .ok (.getfield 15, 3) := by decide +kernel
theorem dX0_carryOut_17 : decode cX0_carryOut 17 = .ok (.aload_n 0, 1) := by decide +kernel
theorem dX0_carryOut_18 : decode cX0_carryOut 18 = .ok (.getfield 18, 3) := by decide +kernel
theorem dX0_carryOut_21 : decode cX0_carryOut 21 = .ok (.invokevirtual 178, 3) := by decide +kernel
theorem dX0_carryOut_24 : decode cX0_carryOut 24 = .ok (.pop, 1) := by decide +kernel
theorem dX0_carryOut_25 : decode cX0_carryOut 25 = .ok (.return_, 1) := by decide +kernel
theorem dX0_spread_0 : decode cX0_spread 0 = .ok (.iconst 0, 1) := by decide +kernel
theorem dX0_spread_1 : decode cX0_spread 1 = .ok (.istore_n 3, 1) := by decide +kernel
theorem dX0_spread_2 : decode cX0_spread 2 = .ok (.iconst 0, 1) := by decide +kernel
theorem dX0_spread_3 : decode cX0_spread 3 = .ok (.istore 4, 2) := by decide +kernel
theorem dX0_spread_5 : decode cX0_spread 5 = .ok (.iload 4, 2) := by decide +kernel
theorem dX0_spread_7 : decode cX0_spread 7 = .ok (.bipush 10, 2) := by decide +kernel
theorem dX0_spread_9 : decode cX0_spread 9 = .ok (.if_icmp .ge 24, 3) := by decide +kernel
theorem dX0_spread_12 : decode cX0_spread 12 = .ok (.aload_n 0, 1) := by decide +kernel
theorem dX0_spread_13 : decode cX0_spread 13 = .ok (.aload_n 1, 1) := by decide +kernel
theorem dX0_spread_14 : decode cX0_spread 14 = .ok (.iload_n 2, 1) := by decide +kernel
theorem dX0_spread_15 : decode cX0_spread 15 = .ok (.invokevirtual 181, 3) := by decide +kernel
theorem dX0_spread_18 : decode cX0_spread 18 = .ok (.ifCond .ne 6, 3) := by decide +kernel
theorem dX0_spread_21 : decode cX0_spread 21 = .ok (.goto 12, 3) := by decide +kernel
theorem dX0_spread_24 : decode cX0_spread 24 = .ok (.iinc 3 1, 3) := by decide +kernel
theorem dX0_spread_27 : decode cX0_spread 27 = .ok (.iinc 4 1, 3) := by decide +kernel
theorem dX0_spread_30 : decode cX0_spread 30 = .ok (.goto (-25), 3) := by decide +kernel
theorem dX0_spread_33 : decode cX0_spread 33 = .ok (.iload_n 3, 1) := by decide +kernel
theorem dX0_spread_34 : decode cX0_spread 34 = .ok (.ireturn, 1) := by decide +kernel
theorem dX0_spreadOnce_0 : decode cX0_spreadOnce 0 = .ok (.iconst 0, 1) := by decide +kernel
theorem dX0_spreadOnce_1 : decode cX0_spreadOnce 1 = .ok (.istore_n 3, 1) := by decide +kernel
theorem dX0_spreadOnce_2 : decode cX0_spreadOnce 2 = .ok (.iload_n 3, 1) := by decide +kernel
theorem dX0_spreadOnce_3 : decode cX0_spreadOnce 3 = .ok (.iconst 2, 1) := by decide +kernel
theorem dX0_spreadOnce_4 : decode cX0_spreadOnce 4 = .ok (.aload_n 0, 1) := by decide +kernel
theorem dX0_spreadOnce_5 : decode cX0_spreadOnce 5 = .ok (.getfield 30, 3) := by decide +kernel
theorem dX0_spreadOnce_8 : decode cX0_spreadOnce 8 = .ok (.getfield 185, 3) := by decide +kernel
theorem dX0_spreadOnce_11 : decode cX0_spreadOnce 11 = .ok (.imul, 1) := by decide +kernel
theorem dX0_spreadOnce_12 : decode cX0_spreadOnce 12 = .ok (.if_icmp .ge 150, 3) := by decide +kernel
theorem dX0_spreadOnce_15 : decode cX0_spreadOnce 15 = .ok (.iload_n 3, 1) := by decide +kernel
theorem dX0_spreadOnce_16 : decode cX0_spreadOnce 16 = .ok (.iconst 2, 1) := by decide +kernel
theorem dX0_spreadOnce_17 : decode cX0_spreadOnce 17 = .ok (.idiv, 1) := by decide +kernel
theorem dX0_spreadOnce_18 : decode cX0_spreadOnce 18 = .ok (.istore 4, 2) := by decide +kernel
theorem dX0_spreadOnce_20 : decode cX0_spreadOnce 20 = .ok (.iload_n 3, 1) := by decide +kernel
theorem dX0_spreadOnce_21 : decode cX0_spreadOnce 21 = .ok (.iconst 2, 1) := by decide +kernel
theorem dX0_spreadOnce_22 : decode cX0_spreadOnce 22 = .ok (.irem, 1) := by decide +kernel
theorem dX0_spreadOnce_23 : decode cX0_spreadOnce 23 = .ok (.iconst 1, 1) := by decide +kernel
theorem dX0_spreadOnce_24 : decode cX0_spreadOnce 24 = .ok (.if_icmp .ne 7, 3) := by decide +kernel
theorem dX0_spreadOnce_27 : decode cX0_spreadOnce 27 = .ok (.iconst 1, 1) := by decide +kernel
theorem dX0_spreadOnce_28 : decode cX0_spreadOnce 28 = .ok (.goto 4, 3) := by decide +kernel
theorem dX0_spreadOnce_31 : decode cX0_spreadOnce 31 = .ok (.iconst 0, 1) := by decide +kernel
theorem dX0_spreadOnce_32 : decode cX0_spreadOnce 32 = .ok (.istore 5, 2) := by decide +kernel
theorem dX0_spreadOnce_34 : decode cX0_spreadOnce 34 = .ok (.aload_n 1, 1) := by decide +kernel
theorem dX0_spreadOnce_35 : decode cX0_spreadOnce 35 = .ok (.iload 5, 2) := by decide +kernel
theorem dX0_spreadOnce_37 : decode cX0_spreadOnce 37 = .ok (.ifCond .eq 15, 3) := by decide +kernel
theorem dX0_spreadOnce_40 : decode cX0_spreadOnce 40 = .ok (.aload_n 0, 1) := by decide +kernel
theorem dX0_spreadOnce_41 : decode cX0_spreadOnce 41 = .ok (.getfield 30, 3) := by decide +kernel
theorem dX0_spreadOnce_44 : decode cX0_spreadOnce 44 = .ok (.iload 4, 2) := by decide +kernel
theorem dX0_spreadOnce_46 : decode cX0_spreadOnce 46 = .ok (.invokevirtual 100, 3) := by decide +kernel
theorem dX0_spreadOnce_49 : decode cX0_spreadOnce 49 = .ok (.goto 12, 3) := by decide +kernel
theorem dX0_spreadOnce_52 : decode cX0_spreadOnce 52 = .ok (.aload_n 0, 1) := by decide +kernel
theorem dX0_spreadOnce_53 : decode cX0_spreadOnce 53 = .ok (.getfield 30, 3) := by decide +kernel
theorem dX0_spreadOnce_56 : decode cX0_spreadOnce 56 = .ok (.iload 4, 2) := by decide +kernel
theorem dX0_spreadOnce_58 : decode cX0_spreadOnce 58 = .ok (.invokevirtual 91, 3) := by decide +kernel
theorem dX0_spreadOnce_61 : decode cX0_spreadOnce 61 = .ok (.invokevirtual 144, 3) := by decide +kernel
theorem dX0_spreadOnce_64 : decode cX0_spreadOnce 64 = .ok (.astore 6, 2) := by decide +kernel
theorem dX0_spreadOnce_66 : decode cX0_spreadOnce 66 = .ok (.aload_n 1, 1) := by decide +kernel
theorem dX0_spreadOnce_67 : decode cX0_spreadOnce 67 = .ok (.iload 5, 2) := by decide +kernel
theorem dX0_spreadOnce_69 : decode cX0_spreadOnce 69 = .ok (.ifCond .eq 15, 3) := by decide +kernel
theorem dX0_spreadOnce_72 : decode cX0_spreadOnce 72 = .ok (.aload_n 0, 1) := by decide +kernel
theorem dX0_spreadOnce_73 : decode cX0_spreadOnce 73 = .ok (.getfield 30, 3) := by decide +kernel
theorem dX0_spreadOnce_76 : decode cX0_spreadOnce 76 = .ok (.iload 4, 2) := by decide +kernel
theorem dX0_spreadOnce_78 : decode cX0_spreadOnce 78 = .ok (.invokevirtual 91, 3) := by decide +kernel
theorem dX0_spreadOnce_81 : decode cX0_spreadOnce 81 = .ok (.goto 12, 3) := by decide +kernel
theorem dX0_spreadOnce_84 : decode cX0_spreadOnce 84 = .ok (.aload_n 0, 1) := by decide +kernel
theorem dX0_spreadOnce_85 : decode cX0_spreadOnce 85 = .ok (.getfield 30, 3) := by decide +kernel
theorem dX0_spreadOnce_88 : decode cX0_spreadOnce 88 = .ok (.iload 4, 2) := by decide +kernel
theorem dX0_spreadOnce_90 : decode cX0_spreadOnce 90 = .ok (.invokevirtual 100, 3) := by decide +kernel
theorem dX0_spreadOnce_93 : decode cX0_spreadOnce 93 = .ok (.invokevirtual 144, 3) := by decide +kernel
theorem dX0_spreadOnce_96 : decode cX0_spreadOnce 96 = .ok (.astore 7, 2) := by decide +kernel
theorem dX0_spreadOnce_98 : decode cX0_spreadOnce 98 = .ok (.aload 7, 2) := by decide +kernel
theorem dX0_spreadOnce_100 : decode cX0_spreadOnce 100 = .ok (.getfield 55, 3) := by decide +kernel
theorem dX0_spreadOnce_103 : decode cX0_spreadOnce 103 = .ok (.bipush (-9), 2) := by decide +kernel
theorem dX0_spreadOnce_105 : decode cX0_spreadOnce 105 = .ok (.if_icmp .ne 15, 3) := by decide +kernel
theorem dX0_spreadOnce_108 : decode cX0_spreadOnce 108 = .ok (.aload 7, 2) := by decide +kernel
theorem dX0_spreadOnce_110 : decode cX0_spreadOnce 110 = .ok (.invokevirtual 188, 3) := by decide +kernel
theorem dX0_spreadOnce_113 : decode cX0_spreadOnce 113 = .ok (.ifCond .ne 7, 3) := by decide +kernel
theorem dX0_spreadOnce_116 : decode cX0_spreadOnce 116 = .ok (.iconst 1, 1) := by decide +kernel
theorem dX0_spreadOnce_117 : decode cX0_spreadOnce 117 = .ok (.goto 4, 3) := by decide +kernel
theorem dX0_spreadOnce_120 : decode cX0_spreadOnce 120 = .ok (.iconst 0, 1) := by decide +kernel
theorem dX0_spreadOnce_121 : decode cX0_spreadOnce 121 = .ok (.istore 8, 2) := by decide +kernel
theorem dX0_spreadOnce_123 : decode cX0_spreadOnce 123 = .ok (.iload 8, 2) := by decide +kernel
theorem dX0_spreadOnce_125 : decode cX0_spreadOnce 125 = .ok (.ifCond .eq 31, 3) := by decide +kernel
theorem dX0_spreadOnce_128 : decode cX0_spreadOnce 128 = .ok (.aload 6, 2) := by decide +kernel
theorem dX0_spreadOnce_130 : decode cX0_spreadOnce 130 = .ok (.getfield 55, 3) := by decide +kernel
theorem dX0_spreadOnce_133 : decode cX0_spreadOnce 133 = .ok (.iload_n 2, 1) := by decide +kernel
theorem dX0_spreadOnce_134 : decode cX0_spreadOnce 134 = .ok (.if_icmp .ne 22, 3) := by decide +kernel
theorem dX0_spreadOnce_137 : decode cX0_spreadOnce 137 = .ok (.aload_n 0, 1) := by decide +kernel
theorem dX0_spreadOnce_138 : decode cX0_spreadOnce 138 = .ok (.aload_n 1, 1) := by decide +kernel
theorem dX0_spreadOnce_139 : decode cX0_spreadOnce 139 = .ok (.iload 4, 2) := by decide +kernel
theorem dX0_spreadOnce_141 : decode cX0_spreadOnce 141 = .ok (.iload 5, 2) := by decide +kernel
theorem dX0_spreadOnce_143 : decode cX0_spreadOnce 143 = .ok (.invokevirtual 192, 3) := by decide +kernel
theorem dX0_spreadOnce_146 : decode cX0_spreadOnce 146 = .ok (.ifCond .eq 10, 3) := by decide +kernel
theorem dX0_spreadOnce_149 : decode cX0_spreadOnce 149 = .ok (.aload_n 0, 1) := by decide +kernel
theorem dX0_spreadOnce_150 : decode cX0_spreadOnce 150 = .ok (.aload_n 1, 1) := by decide +kernel
theorem dX0_spreadOnce_151 : decode cX0_spreadOnce 151 = .ok (.invokevirtual 195, 3) := by decide +kernel
theorem dX0_spreadOnce_154 : decode cX0_spreadOnce 154 = .ok (.iconst 1, 1) := by decide +kernel
theorem dX0_spreadOnce_155 : decode cX0_spreadOnce 155 = .ok (.ireturn, 1) := by decide +kernel
theorem dX0_spreadOnce_156 : decode cX0_spreadOnce 156 = .ok (.iinc 3 1, 3) := by decide +kernel
theorem dX0_spreadOnce_159 : decode cX0_spreadOnce 159 = .ok (.goto (-157), 3) := by decide +kernel
theorem dX0_spreadOnce_162 : decode cX0_spreadOnce 162 = .ok (.iconst 0, 1) := by decide +kernel
theorem dX0_spreadOnce_163 : decode cX0_spreadOnce 163 = .ok (.ireturn, 1) := by decide +kernel
theorem dX1_init_0 : decode cX1_init 0 = .ok (.aload_n 0, 1) := by decide +kernel
theorem dX1_init_1 : decode cX1_init 1 = .ok (.invokespecial 1, 3) := by decide +kernel
theorem dX1_init_4 : decode cX1_init 4 = .ok (.aload_n 0, 1) := by decide +kernel
theorem dX1_init_5 : decode cX1_init 5 = .ok (.new 7, 3) := by decide +kernel
theorem dX1_init_8 : decode cX1_init 8 = .ok (.dup, 1) := by decide +kernel
theorem dX1_init_9 : decode cX1_init 9 = .ok (.invokespecial 9, 3) := by decide +kernel
theorem dX1_init_12 : decode cX1_init 12 = .ok (.putfield 10, 3) := by decide +kernel
theorem dX1_init_15 : decode cX1_init 15 = .ok (.aload_n 0, 1) := by decide +kernel
theorem dX1_init_16 : decode cX1_init 16 = .ok (.sipush 351, 3) := by decide +kernel
theorem dX1_init_19 : decode cX1_init 19 = .ok (.newarray .boolean, 2) := by decide +kernel
theorem dX1_init_21 : decode cX1_init 21 = .ok (.putfield 16, 3) := by decide +kernel
theorem dX1_init_24 : decode cX1_init 24 = .ok (.return_, 1) := by decide +kernel
theorem dX1_creases_0 : decode cX1_creases 0 = .ok (.iconst 0, 1) := by decide +kernel
theorem dX1_creases_1 : decode cX1_creases 1 = .ok (.istore_n 2, 1) := by decide +kernel
theorem dX1_creases_2 : decode cX1_creases 2 = .ok (.iconst 1, 1) := by decide +kernel
theorem dX1_creases_3 : decode cX1_creases 3 = .ok (.istore_n 3, 1) := by decide +kernel
theorem dX1_creases_4 : decode cX1_creases 4 = .ok (.iload_n 3, 1) := by decide +kernel
theorem dX1_creases_5 : decode cX1_creases 5 = .ok (.aload_n 1, 1) := by decide +kernel
theorem dX1_creases_6 : decode cX1_creases 6 = .ok (.getfield 20, 3) := by decide +kernel
theorem dX1_creases_9 : decode cX1_creases 9 = .ok (.if_icmp .ge 35, 3) := by decide +kernel
theorem dX1_creases_12 : decode cX1_creases 12 = .ok (.iload_n 2, 1) := by decide +kernel
theorem dX1_creases_13 : decode cX1_creases 13 = .ok (.aload_n 1, 1) := by decide +kernel
theorem dX1_creases_14 : decode cX1_creases 14 = .ok (.iload_n 3, 1) := by decide +kernel
theorem dX1_creases_15 : decode cX1_creases 15 = .ok (.invokevirtual 26, 3) := by decide +kernel
theorem dX1_creases_18 : decode cX1_creases 18 = .ok (.getfield 30, 3) := by decide +kernel
theorem dX1_creases_21 : decode cX1_creases 21 = .ok (.ifCond .eq 14, 3) := by decide +kernel
theorem dX1_creases_24 : decode cX1_creases 24 = .ok (.aload_n 1, 1) := by decide +kernel
theorem dX1_creases_25 : decode cX1_creases 25 = .ok (.iload_n 3, 1) := by decide +kernel
theorem dX1_creases_26 : decode cX1_creases 26 = .ok (.invokevirtual 26, 3) := by decide +kernel
theorem dX1_creases_29 : decode cX1_creases 29 = .ok (.getfield 35, 3) := by decide +kernel
theorem dX1_creases_32 : decode cX1_creases 32 = .ok (.goto 4, 3) := by decide +kernel
theorem dX1_creases_35 : decode cX1_creases 35 = .ok (.iconst 0, 1) := by decide +kernel
theorem dX1_creases_36 : decode cX1_creases 36 = .ok (.iadd, 1) := by decide +kernel
theorem dX1_creases_37 : decode cX1_creases 37 = .ok (.istore_n 2, 1) := by decide +kernel
theorem dX1_creases_38 : decode cX1_creases 38 = .ok (.iinc 3 1, 3) := by decide +kernel
theorem dX1_creases_41 : decode cX1_creases 41 = .ok (.goto (-37), 3) := by decide +kernel
theorem dX1_creases_44 : decode cX1_creases 44 = .ok (.iload_n 2, 1) := by decide +kernel
theorem dX1_creases_45 : decode cX1_creases 45 = .ok (.ireturn, 1) := by decide +kernel
theorem dX1_cuts_0 : decode cX1_cuts 0 = .ok (.iconst 0, 1) := by decide +kernel
theorem dX1_cuts_1 : decode cX1_cuts 1 = .ok (.istore_n 2, 1) := by decide +kernel
theorem dX1_cuts_2 : decode cX1_cuts 2 = .ok (.iconst 0, 1) := by decide +kernel
theorem dX1_cuts_3 : decode cX1_cuts 3 = .ok (.istore_n 3, 1) := by decide +kernel
theorem dX1_cuts_4 : decode cX1_cuts 4 = .ok (.iload_n 3, 1) := by decide +kernel
theorem dX1_cuts_5 : decode cX1_cuts 5 = .ok (.aload_n 1, 1) := by decide +kernel
theorem dX1_cuts_6 : decode cX1_cuts 6 = .ok (.getfield 20, 3) := by decide +kernel
theorem dX1_cuts_9 : decode cX1_cuts 9 = .ok (.if_icmp .ge 54, 3) := by decide +kernel
theorem dX1_cuts_12 : decode cX1_cuts 12 = .ok (.iconst 0, 1) := by decide +kernel
theorem dX1_cuts_13 : decode cX1_cuts 13 = .ok (.istore 4, 2) := by decide +kernel
theorem dX1_cuts_15 : decode cX1_cuts 15 = .ok (.iload 4, 2) := by decide +kernel
theorem dX1_cuts_17 : decode cX1_cuts 17 = .ok (.iconst 4, 1) := by decide +kernel
theorem dX1_cuts_18 : decode cX1_cuts 18 = .ok (.if_icmp .ge 20, 3) := by decide +kernel
theorem dX1_cuts_21 : decode cX1_cuts 21 = .ok (.iload_n 2, 1) := by decide +kernel
theorem dX1_cuts_22 : decode cX1_cuts 22 = .ok (.aload_n 0, 1) := by decide +kernel
theorem dX1_cuts_23 : decode cX1_cuts 23 = .ok (.aload_n 1, 1) := by decide +kernel
theorem dX1_cuts_24 : decode cX1_cuts 24 = .ok (.iload_n 3, 1) := by decide +kernel
theorem dX1_cuts_25 : decode cX1_cuts 25 = .ok (.iload 4, 2) := by decide +kernel
theorem dX1_cuts_27 : decode cX1_cuts 27 = .ok (.invokevirtual 38, 3) := by decide +kernel
theorem dX1_cuts_30 : decode cX1_cuts 30 = .ok (.iadd, 1) := by decide +kernel
theorem dX1_cuts_31 : decode cX1_cuts 31 = .ok (.istore_n 2, 1) := by decide +kernel
theorem dX1_cuts_32 : decode cX1_cuts 32 = .ok (.iinc 4 1, 3) := by decide +kernel
theorem dX1_cuts_35 : decode cX1_cuts 35 = .ok (.goto (-20), 3) := by decide +kernel
theorem dX1_cuts_38 : decode cX1_cuts 38 = .ok (.iload_n 2, 1) := by decide +kernel
theorem dX1_cuts_39 : decode cX1_cuts 39 = .ok (.iload_n 3, 1) := by decide +kernel
theorem dX1_cuts_40 : decode cX1_cuts 40 = .ok (.ifCond .le 14, 3) := by decide +kernel
theorem dX1_cuts_43 : decode cX1_cuts 43 = .ok (.aload_n 1, 1) := by decide +kernel
theorem dX1_cuts_44 : decode cX1_cuts 44 = .ok (.iload_n 3, 1) := by decide +kernel
theorem dX1_cuts_45 : decode cX1_cuts 45 = .ok (.invokevirtual 26, 3) := by decide +kernel
theorem dX1_cuts_48 : decode cX1_cuts 48 = .ok (.getfield 35, 3) := by decide +kernel
theorem dX1_cuts_51 : decode cX1_cuts 51 = .ok (.goto 4, 3) := by decide +kernel
theorem dX1_cuts_54 : decode cX1_cuts 54 = .ok (.iconst 0, 1) := by decide +kernel
theorem dX1_cuts_55 : decode cX1_cuts 55 = .ok (.isub, 1) := by decide +kernel
theorem dX1_cuts_56 : decode cX1_cuts 56 = .ok (.istore_n 2, 1) := by decide +kernel
theorem dX1_cuts_57 : decode cX1_cuts 57 = .ok (.iinc 3 1, 3) := by decide +kernel
theorem dX1_cuts_60 : decode cX1_cuts 60 = .ok (.goto (-56), 3) := by decide +kernel
theorem dX1_cuts_63 : decode cX1_cuts 63 = .ok (.iload_n 2, 1) := by decide +kernel
theorem dX1_cuts_64 : decode cX1_cuts 64 = .ok (.ireturn, 1) := by decide +kernel
theorem dX1_newLine_0 : decode cX1_newLine 0 = .ok (.aload_n 1, 1) := by decide +kernel
theorem dX1_newLine_1 : decode cX1_newLine 1 = .ok (.iload_n 2, 1) := by decide +kernel
theorem dX1_newLine_2 : decode cX1_newLine 2 = .ok (.invokevirtual 26, 3) := by decide +kernel
theorem dX1_newLine_5 : decode cX1_newLine 5 = .ok (.astore 4, 2) := by decide +kernel
theorem dX1_newLine_7 : decode cX1_newLine 7 = .ok (.iload_n 3, 1) := by decide +kernel
theorem dX1_newLine_8 : decode cX1_newLine 8 = .ok (.iconst 1, 1) := by decide +kernel
theorem dX1_newLine_9 : decode cX1_newLine 9 = .ok (.iand, 1) := by decide +kernel
theorem dX1_newLine_10 : decode cX1_newLine 10 = .ok (.istore 5, 2) := by decide +kernel
theorem dX1_newLine_12 : decode cX1_newLine 12 = .ok (.aload 4, 2) := by decide +kernel
theorem dX1_newLine_14 : decode cX1_newLine 14 = .ok (.iload_n 3, 1) := by decide +kernel
theorem dX1_newLine_15 : decode cX1_newLine 15 = .ok (.invokestatic 42, 3) := by decide +kernel
theorem dX1_newLine_18 : decode cX1_newLine 18 = .ok (.istore 6, 2) := by decide +kernel
theorem dX1_newLine_20 : decode cX1_newLine 20 = .ok (.aload_n 0, 1) := by decide +kernel
theorem dX1_newLine_21 : decode cX1_newLine 21 = .ok (.getfield 10, 3) := by decide +kernel
theorem dX1_newLine_24 : decode cX1_newLine 24 = .ok (.invokevirtual 46, 3) := by decide +kernel
theorem dX1_newLine_27 : decode cX1_newLine 27 = .ok (.iconst 0, 1) := by decide +kernel
theorem dX1_newLine_28 : decode cX1_newLine 28 = .ok (.istore 7, 2) := by decide +kernel
theorem dX1_newLine_30 : decode cX1_newLine 30 = .ok (.iload 7, 2) := by decide +kernel
theorem dX1_newLine_32 : decode cX1_newLine 32 = .ok (.iload_n 2, 1) := by decide +kernel
theorem dX1_newLine_33 : decode cX1_newLine 33 = .ok (.if_icmp .ge 62, 3) := by decide +kernel
theorem dX1_newLine_36 : decode cX1_newLine 36 = .ok (.aload_n 1, 1) := by decide +kernel
theorem dX1_newLine_37 : decode cX1_newLine 37 = .ok (.iload 7, 2) := by decide +kernel
theorem dX1_newLine_39 : decode cX1_newLine 39 = .ok (.invokevirtual 26, 3) := by decide +kernel
theorem dX1_newLine_42 : decode cX1_newLine 42 = .ok (.astore 8, 2) := by decide +kernel
theorem dX1_newLine_44 : decode cX1_newLine 44 = .ok (.aload 8, 2) := by decide +kernel
theorem dX1_newLine_46 : decode cX1_newLine 46 = .ok (.iload_n 3, 1) := by decide +kernel
theorem dX1_newLine_47 : decode cX1_newLine 47 = .ok (.invokestatic 42, 3) := by decide +kernel
theorem dX1_newLine_50 : decode cX1_newLine 50 = .ok (.iload 6, 2) := by decide +kernel
theorem dX1_newLine_52 : decode cX1_newLine 52 = .ok (.if_icmp .eq 16, 3) := by decide +kernel
theorem dX1_newLine_55 : decode cX1_newLine 55 = .ok (.aload 8, 2) := by decide +kernel
theorem dX1_newLine_57 : decode cX1_newLine 57 = .ok (.iload_n 3, 1) := by decide +kernel
theorem dX1_newLine_58 : decode cX1_newLine 58 = .ok (.iconst 2, 1) := by decide +kernel
theorem dX1_newLine_59 : decode cX1_newLine 59 = .ok (.ixor, 1) := by decide +kernel
theorem dX1_newLine_60 : decode cX1_newLine 60 = .ok (.invokestatic 42, 3) := by decide +kernel
theorem dX1_newLine_63 : decode cX1_newLine 63 = .ok (.iload 6, 2) := by decide +kernel
theorem dX1_newLine_65 : decode cX1_newLine 65 = .ok (.if_icmp .ne 24, 3) := by decide +kernel
theorem dX1_newLine_68 : decode cX1_newLine 68 = .ok (.aload_n 0, 1) := by decide +kernel
theorem dX1_newLine_69 : decode cX1_newLine 69 = .ok (.getfield 10, 3) := by decide +kernel
theorem dX1_newLine_72 : decode cX1_newLine 72 = .ok (.aload 8, 2) := by decide +kernel
theorem dX1_newLine_74 : decode cX1_newLine 74 = .ok (.iload 5, 2) := by decide +kernel
theorem dX1_newLine_76 : decode cX1_newLine 76 = .ok (.invokevirtual 49, 3) := by decide +kernel
theorem dX1_newLine_79 : decode cX1_newLine 79 = .ok (.aload 8, 2) := by decide +kernel
theorem dX1_newLine_81 : decode cX1_newLine 81 = .ok (.iload 5, 2) := by decide +kernel
theorem dX1_newLine_83 : decode cX1_newLine 83 = .ok (.invokevirtual 53, 3) := by decide +kernel
theorem dX1_newLine_86 : decode cX1_newLine 86 = .ok (.invokevirtual 56, 3) := by decide +kernel
theorem dX1_newLine_89 : decode cX1_newLine 89 = .ok (.iinc 7 1, 3) := by decide +kernel
theorem dX1_newLine_92 : decode cX1_newLine 92 = .ok (.goto (-62), 3) := by decide +kernel
theorem dX1_newLine_95 : decode cX1_newLine 95 = .ok (.aload_n 0, 1) := by decide +kernel
theorem dX1_newLine_96 : decode cX1_newLine 96 = .ok (.getfield 10, 3) := by decide +kernel
theorem dX1_newLine_99 : decode cX1_newLine 99 = .ok (.aload 4, 2) := by decide +kernel
theorem dX1_newLine_101 : decode cX1_newLine 101 = .ok (.iload 5, 2) := by decide +kernel
theorem dX1_newLine_103 : decode cX1_newLine 103 = .ok (.invokevirtual 49, 3) := by decide +kernel
theorem dX1_newLine_106 : decode cX1_newLine 106 = .ok (.aload 4, 2) := by decide +kernel
theorem dX1_newLine_108 : decode cX1_newLine 108 = .ok (.iload 5, 2) := by decide +kernel
theorem dX1_newLine_110 : decode cX1_newLine 110 = .ok (.invokevirtual 53, 3) := by decide +kernel
theorem dX1_newLine_113 : decode cX1_newLine 113 = .ok (.invokevirtual 60, 3) := by decide +kernel
theorem dX1_newLine_116 : decode cX1_newLine 116 = .ok (.ireturn, 1) := by decide +kernel
theorem dX1_lineOf_0 : decode cX1_lineOf 0 = .ok (.iconst 1, 1) := by decide +kernel
theorem dX1_lineOf_1 : decode cX1_lineOf 1 = .ok (.iload_n 1, 1) := by decide +kernel
theorem dX1_lineOf_2 : decode cX1_lineOf 2 = .ok (.iconst 1, 1) := by decide +kernel
theorem dX1_lineOf_3 : decode cX1_lineOf 3 = .ok (.iand, 1) := by decide +kernel
theorem dX1_lineOf_4 : decode cX1_lineOf 4 = .ok (.isub, 1) := by decide +kernel
theorem dX1_lineOf_5 : decode cX1_lineOf 5 = .ok (.istore_n 2, 1) := by decide +kernel
theorem dX1_lineOf_6 : decode cX1_lineOf 6 = .ok (.iload_n 1, 1) := by decide +kernel
theorem dX1_lineOf_7 : decode cX1_lineOf 7 = .ok (.ifCond .eq 8, 3) := by decide +kernel
theorem dX1_lineOf_10 : decode cX1_lineOf 10 = .ok (.iload_n 1, 1) := by decide +kernel
theorem dX1_lineOf_11 : decode cX1_lineOf 11 = .ok (.iconst 3, 1) := by decide +kernel
theorem dX1_lineOf_12 : decode cX1_lineOf 12 = .ok (.if_icmp .ne 11, 3) := by decide +kernel
theorem dX1_lineOf_15 : decode cX1_lineOf 15 = .ok (.aload_n 0, 1) := by decide +kernel
theorem dX1_lineOf_16 : decode cX1_lineOf 16 = .ok (.iload_n 2, 1) := by decide +kernel
theorem dX1_lineOf_17 : decode cX1_lineOf 17 = .ok (.invokevirtual 49, 3) := by decide +kernel
theorem dX1_lineOf_20 : decode cX1_lineOf 20 = .ok (.goto 8, 3) := by decide +kernel
theorem dX1_lineOf_23 : decode cX1_lineOf 23 = .ok (.aload_n 0, 1) := by decide +kernel
theorem dX1_lineOf_24 : decode cX1_lineOf 24 = .ok (.iload_n 2, 1) := by decide +kernel
theorem dX1_lineOf_25 : decode cX1_lineOf 25 = .ok (.invokevirtual 53, 3) := by decide +kernel
theorem dX1_lineOf_28 : decode cX1_lineOf 28 = .ok (.ireturn, 1) := by decide +kernel
theorem dX1_copiesInRow_0 : decode cX1_copiesInRow 0 = .ok (.aload_n 0, 1) := by decide +kernel
theorem dX1_copiesInRow_1 : decode cX1_copiesInRow 1 = .ok (.aload_n 1, 1) := by decide +kernel
theorem dX1_copiesInRow_2 : decode cX1_copiesInRow 2 = .ok (.iload_n 2, 1) := by decide +kernel
theorem dX1_copiesInRow_3 : decode cX1_copiesInRow 3 = .ok (.iload_n 3, 1) := by decide +kernel
theorem dX1_copiesInRow_4 : decode cX1_copiesInRow 4 = .ok (.iconst 0, 1) := by decide +kernel
theorem dX1_copiesInRow_5 : decode cX1_copiesInRow 5 = .ok (.invokevirtual 64, 3) := by decide +kernel
theorem dX1_copiesInRow_8 : decode cX1_copiesInRow 8 = .ok (.istore 4, 2) := by decide +kernel
theorem dX1_copiesInRow_10 : decode cX1_copiesInRow 10 = .ok (.iload_n 2, 1) := by decide +kernel
theorem dX1_copiesInRow_11 : decode cX1_copiesInRow 11 = .ok (.ifCond .ne 10, 3) := by decide +kernel
theorem dX1_copiesInRow_14 : decode cX1_copiesInRow 14 = .ok (.aload_n 1, 1) := by decide +kernel
theorem dX1_copiesInRow_15 : decode cX1_copiesInRow 15 = .ok (.getfield 68, 3) := by decide +kernel
theorem dX1_copiesInRow_18 : decode cX1_copiesInRow 18 = .ok (.goto 7, 3) := by decide +kernel
theorem dX1_copiesInRow_21 : decode cX1_copiesInRow 21 = .ok (.aload_n 1, 1) := by decide +kernel
theorem dX1_copiesInRow_22 : decode cX1_copiesInRow 22 = .ok (.getfield 71, 3) := by decide +kernel
theorem dX1_copiesInRow_25 : decode cX1_copiesInRow 25 = .ok (.aload_n 1, 1) := by decide +kernel
theorem dX1_copiesInRow_26 : decode cX1_copiesInRow 26 = .ok (.iload_n 2, 1) := by decide +kernel
theorem dX1_copiesInRow_27 : decode cX1_copiesInRow 27 = .ok (.invokestatic 74, 3) := by decide +kernel
theorem dX1_copiesInRow_30 : decode cX1_copiesInRow 30 = .ok (.aload_n 1, 1) := by decide +kernel
theorem dX1_copiesInRow_31 : decode cX1_copiesInRow 31 = .ok (.iload_n 2, 1) := by decide +kernel
theorem dX1_copiesInRow_32 : decode cX1_copiesInRow 32 = .ok (.invokestatic 78, 3) := by decide +kernel
theorem dX1_copiesInRow_35 : decode cX1_copiesInRow 35 = .ok (.isub, 1) := by decide +kernel
theorem dX1_copiesInRow_36 : decode cX1_copiesInRow 36 = .ok (.isub, 1) := by decide +kernel
theorem dX1_copiesInRow_37 : decode cX1_copiesInRow 37 = .ok (.istore 5, 2) := by decide +kernel
theorem dX1_copiesInRow_39 : decode cX1_copiesInRow 39 = .ok (.iload 4, 2) := by decide +kernel
theorem dX1_copiesInRow_41 : decode cX1_copiesInRow 41 = .ok (.ifCond .le 13, 3) := by decide +kernel
theorem dX1_copiesInRow_44 : decode cX1_copiesInRow 44 = .ok (.iconst 1, 1) := by decide +kernel
theorem dX1_copiesInRow_45 : decode cX1_copiesInRow 45 = .ok (.iload 5, 2) := by decide +kernel
theorem dX1_copiesInRow_47 : decode cX1_copiesInRow 47 = .ok (.iload 4, 2) := by decide +kernel
theorem dX1_copiesInRow_49 : decode cX1_copiesInRow 49 = .ok (.idiv, 1) := by decide +kernel
theorem dX1_copiesInRow_50 : decode cX1_copiesInRow 50 = .ok (.iadd, 1) := by decide +kernel
theorem dX1_copiesInRow_51 : decode cX1_copiesInRow 51 = .ok (.goto 4, 3) := by decide +kernel
theorem dX1_copiesInRow_54 : decode cX1_copiesInRow 54 = .ok (.iconst 1, 1) := by decide +kernel
theorem dX1_copiesInRow_55 : decode cX1_copiesInRow 55 = .ok (.ireturn, 1) := by decide +kernel
theorem dX1_smallest_0 : decode cX1_smallest 0 = .ok (.aload_n 0, 1) := by decide +kernel
theorem dX1_smallest_1 : decode cX1_smallest 1 = .ok (.iconst 0, 1) := by decide +kernel
theorem dX1_smallest_2 : decode cX1_smallest 2 = .ok (.invokevirtual 26, 3) := by decide +kernel
theorem dX1_smallest_5 : decode cX1_smallest 5 = .ok (.iload_n 1, 1) := by decide +kernel
theorem dX1_smallest_6 : decode cX1_smallest 6 = .ok (.invokevirtual 49, 3) := by decide +kernel
theorem dX1_smallest_9 : decode cX1_smallest 9 = .ok (.istore_n 2, 1) := by decide +kernel
theorem dX1_smallest_10 : decode cX1_smallest 10 = .ok (.iconst 1, 1) := by decide +kernel
theorem dX1_smallest_11 : decode cX1_smallest 11 = .ok (.istore_n 3, 1) := by decide +kernel
theorem dX1_smallest_12 : decode cX1_smallest 12 = .ok (.iload_n 3, 1) := by decide +kernel
theorem dX1_smallest_13 : decode cX1_smallest 13 = .ok (.aload_n 0, 1) := by decide +kernel
theorem dX1_smallest_14 : decode cX1_smallest 14 = .ok (.getfield 20, 3) := by decide +kernel
theorem dX1_smallest_17 : decode cX1_smallest 17 = .ok (.if_icmp .ge 23, 3) := by decide +kernel
theorem dX1_smallest_20 : decode cX1_smallest 20 = .ok (.iload_n 2, 1) := by decide +kernel
theorem dX1_smallest_21 : decode cX1_smallest 21 = .ok (.aload_n 0, 1) := by decide +kernel
theorem dX1_smallest_22 : decode cX1_smallest 22 = .ok (.iload_n 3, 1) := by decide +kernel
theorem dX1_smallest_23 : decode cX1_smallest 23 = .ok (.invokevirtual 26, 3) := by decide +kernel
theorem dX1_smallest_26 : decode cX1_smallest 26 = .ok (.iload_n 1, 1) := by decide +kernel
theorem dX1_smallest_27 : decode cX1_smallest 27 = .ok (.invokevirtual 49, 3) := by decide +kernel
theorem dX1_smallest_30 : decode cX1_smallest 30 = .ok (.invokestatic 81, 3) := by decide +kernel
theorem dX1_smallest_33 : decode cX1_smallest 33 = .ok (.istore_n 2, 1) := by decide +kernel
theorem dX1_smallest_34 : decode cX1_smallest 34 = .ok (.iinc 3 1, 3) := by decide +kernel
theorem dX1_smallest_37 : decode cX1_smallest 37 = .ok (.goto (-25), 3) := by decide +kernel
theorem dX1_smallest_40 : decode cX1_smallest 40 = .ok (.iload_n 2, 1) := by decide +kernel
theorem dX1_smallest_41 : decode cX1_smallest 41 = .ok (.ireturn, 1) := by decide +kernel
theorem dX1_greatest_0 : decode cX1_greatest 0 = .ok (.aload_n 0, 1) := by decide +kernel
theorem dX1_greatest_1 : decode cX1_greatest 1 = .ok (.iconst 0, 1) := by decide +kernel
theorem dX1_greatest_2 : decode cX1_greatest 2 = .ok (.invokevirtual 26, 3) := by decide +kernel
theorem dX1_greatest_5 : decode cX1_greatest 5 = .ok (.iload_n 1, 1) := by decide +kernel
theorem dX1_greatest_6 : decode cX1_greatest 6 = .ok (.invokevirtual 53, 3) := by decide +kernel
theorem dX1_greatest_9 : decode cX1_greatest 9 = .ok (.istore_n 2, 1) := by decide +kernel
theorem dX1_greatest_10 : decode cX1_greatest 10 = .ok (.iconst 1, 1) := by decide +kernel
theorem dX1_greatest_11 : decode cX1_greatest 11 = .ok (.istore_n 3, 1) := by decide +kernel
theorem dX1_greatest_12 : decode cX1_greatest 12 = .ok (.iload_n 3, 1) := by decide +kernel
theorem dX1_greatest_13 : decode cX1_greatest 13 = .ok (.aload_n 0, 1) := by decide +kernel
theorem dX1_greatest_14 : decode cX1_greatest 14 = .ok (.getfield 20, 3) := by decide +kernel
theorem dX1_greatest_17 : decode cX1_greatest 17 = .ok (.if_icmp .ge 23, 3) := by decide +kernel
theorem dX1_greatest_20 : decode cX1_greatest 20 = .ok (.iload_n 2, 1) := by decide +kernel
theorem dX1_greatest_21 : decode cX1_greatest 21 = .ok (.aload_n 0, 1) := by decide +kernel
theorem dX1_greatest_22 : decode cX1_greatest 22 = .ok (.iload_n 3, 1) := by decide +kernel
theorem dX1_greatest_23 : decode cX1_greatest 23 = .ok (.invokevirtual 26, 3) := by decide +kernel
theorem dX1_greatest_26 : decode cX1_greatest 26 = .ok (.iload_n 1, 1) := by decide +kernel
theorem dX1_greatest_27 : decode cX1_greatest 27 = .ok (.invokevirtual 53, 3) := by decide +kernel
theorem dX1_greatest_30 : decode cX1_greatest 30 = .ok (.invokestatic 86, 3) := by decide +kernel
theorem dX1_greatest_33 : decode cX1_greatest 33 = .ok (.istore_n 2, 1) := by decide +kernel
theorem dX1_greatest_34 : decode cX1_greatest 34 = .ok (.iinc 3 1, 3) := by decide +kernel
theorem dX1_greatest_37 : decode cX1_greatest 37 = .ok (.goto (-25), 3) := by decide +kernel
theorem dX1_greatest_40 : decode cX1_greatest 40 = .ok (.iload_n 2, 1) := by decide +kernel
theorem dX1_greatest_41 : decode cX1_greatest 41 = .ok (.ireturn, 1) := by decide +kernel
theorem dX1_leastPitch_0 : decode cX1_leastPitch 0 = .ok (.iconst 0, 1) := by decide +kernel
theorem dX1_leastPitch_1 : decode cX1_leastPitch 1 = .ok (.istore 5, 2) := by decide +kernel
theorem dX1_leastPitch_3 : decode cX1_leastPitch 3 = .ok (.iload 5, 2) := by decide +kernel
theorem dX1_leastPitch_5 : decode cX1_leastPitch 5 = .ok (.sipush 350, 3) := by decide +kernel
theorem dX1_leastPitch_8 : decode cX1_leastPitch 8 = .ok (.if_icmp .gt 17, 3) := by decide +kernel
theorem dX1_leastPitch_11 : decode cX1_leastPitch 11 = .ok (.aload_n 0, 1) := by decide +kernel
theorem dX1_leastPitch_12 : decode cX1_leastPitch 12 = .ok (.getfield 16, 3) := by decide +kernel
theorem dX1_leastPitch_15 : decode cX1_leastPitch 15 = .ok (.iload 5, 2) := by decide +kernel
theorem dX1_leastPitch_17 : decode cX1_leastPitch 17 = .ok (.iconst 0, 1) := by decide +kernel
theorem dX1_leastPitch_18 : decode cX1_leastPitch 18 = .ok (.bastore, 1) := by decide +kernel
theorem dX1_leastPitch_19 : decode cX1_leastPitch 19 = .ok (.iinc 5 1, 3) := by decide +kernel
theorem dX1_leastPitch_22 : decode cX1_leastPitch 22 = .ok (.goto (-19), 3) := by decide +kernel
theorem dX1_leastPitch_25 : decode cX1_leastPitch 25 = .ok (.aload_n 1, 1) := by decide +kernel
theorem dX1_leastPitch_26 : decode cX1_leastPitch 26 = .ok (.iload_n 2, 1) := by decide +kernel
theorem dX1_leastPitch_27 : decode cX1_leastPitch 27 = .ok (.invokestatic 78, 3) := by decide +kernel
theorem dX1_leastPitch_30 : decode cX1_leastPitch 30 = .ok (.aload_n 1, 1) := by decide +kernel
theorem dX1_leastPitch_31 : decode cX1_leastPitch 31 = .ok (.iload_n 2, 1) := by decide +kernel
theorem dX1_leastPitch_32 : decode cX1_leastPitch 32 = .ok (.invokestatic 74, 3) := by decide +kernel
theorem dX1_leastPitch_35 : decode cX1_leastPitch 35 = .ok (.iadd, 1) := by decide +kernel
theorem dX1_leastPitch_36 : decode cX1_leastPitch 36 = .ok (.istore 5, 2) := by decide +kernel
theorem dX1_leastPitch_38 : decode cX1_leastPitch 38 = .ok (.aload_n 1, 1) := by decide +kernel
theorem dX1_leastPitch_39 : decode cX1_leastPitch 39 = .ok (.iconst 1, 1) := by decide +kernel
theorem dX1_leastPitch_40 : decode cX1_leastPitch 40 = .ok (.iload_n 2, 1) := by decide +kernel
theorem dX1_leastPitch_41 : decode cX1_leastPitch 41 = .ok (.isub, 1) := by decide +kernel
theorem dX1_leastPitch_42 : decode cX1_leastPitch 42 = .ok (.invokestatic 78, 3) := by decide +kernel
theorem dX1_leastPitch_45 : decode cX1_leastPitch 45 = .ok (.aload_n 1, 1) := by decide +kernel
theorem dX1_leastPitch_46 : decode cX1_leastPitch 46 = .ok (.iconst 1, 1) := by decide +kernel
theorem dX1_leastPitch_47 : decode cX1_leastPitch 47 = .ok (.iload_n 2, 1) := by decide +kernel
theorem dX1_leastPitch_48 : decode cX1_leastPitch 48 = .ok (.isub, 1) := by decide +kernel
theorem dX1_leastPitch_49 : decode cX1_leastPitch 49 = .ok (.invokestatic 74, 3) := by decide +kernel
theorem dX1_leastPitch_52 : decode cX1_leastPitch 52 = .ok (.iadd, 1) := by decide +kernel
theorem dX1_leastPitch_53 : decode cX1_leastPitch 53 = .ok (.istore 6, 2) := by decide +kernel
theorem dX1_leastPitch_55 : decode cX1_leastPitch 55 = .ok (.iconst 0, 1) := by decide +kernel
theorem dX1_leastPitch_56 : decode cX1_leastPitch 56 = .ok (.istore 7, 2) := by decide +kernel
theorem dX1_leastPitch_58 : decode cX1_leastPitch 58 = .ok (.iload 7, 2) := by decide +kernel
theorem dX1_leastPitch_60 : decode cX1_leastPitch 60 = .ok (.aload_n 1, 1) := by decide +kernel
theorem dX1_leastPitch_61 : decode cX1_leastPitch 61 = .ok (.getfield 20, 3) := by decide +kernel
theorem dX1_leastPitch_64 : decode cX1_leastPitch 64 = .ok (.if_icmp .ge 209, 3) := by decide +kernel
theorem dX1_leastPitch_67 : decode cX1_leastPitch 67 = .ok (.iconst 0, 1) := by decide +kernel
theorem dX1_leastPitch_68 : decode cX1_leastPitch 68 = .ok (.istore 8, 2) := by decide +kernel
theorem dX1_leastPitch_70 : decode cX1_leastPitch 70 = .ok (.iload 8, 2) := by decide +kernel
theorem dX1_leastPitch_72 : decode cX1_leastPitch 72 = .ok (.aload_n 1, 1) := by decide +kernel
theorem dX1_leastPitch_73 : decode cX1_leastPitch 73 = .ok (.getfield 20, 3) := by decide +kernel
theorem dX1_leastPitch_76 : decode cX1_leastPitch 76 = .ok (.if_icmp .ge 191, 3) := by decide +kernel
theorem dX1_leastPitch_79 : decode cX1_leastPitch 79 = .ok (.aload_n 1, 1) := by decide +kernel
theorem dX1_leastPitch_80 : decode cX1_leastPitch 80 = .ok (.iload 7, 2) := by decide +kernel
theorem dX1_leastPitch_82 : decode cX1_leastPitch 82 = .ok (.invokevirtual 26, 3) := by decide +kernel
theorem dX1_leastPitch_85 : decode cX1_leastPitch 85 = .ok (.astore 9, 2) := by decide +kernel
theorem dX1_leastPitch_87 : decode cX1_leastPitch 87 = .ok (.aload_n 1, 1) := by decide +kernel
theorem dX1_leastPitch_88 : decode cX1_leastPitch 88 = .ok (.iload 8, 2) := by decide +kernel
theorem dX1_leastPitch_90 : decode cX1_leastPitch 90 = .ok (.invokevirtual 26, 3) := by decide +kernel
theorem dX1_leastPitch_93 : decode cX1_leastPitch 93 = .ok (.astore 10, 2) := by decide +kernel
theorem dX1_leastPitch_95 : decode cX1_leastPitch 95 = .ok (.iload 4, 2) := by decide +kernel
theorem dX1_leastPitch_97 : decode cX1_leastPitch 97 = .ok (.ifCond .eq 15, 3) := by decide +kernel
theorem dX1_leastPitch_100 : decode cX1_leastPitch 100 = .ok (.iload 5, 2) := by decide +kernel
theorem dX1_leastPitch_102 : decode cX1_leastPitch 102 = .ok (.aload 10, 2) := by decide +kernel
theorem dX1_leastPitch_104 : decode cX1_leastPitch 104 = .ok (.iload_n 2, 1) := by decide +kernel
theorem dX1_leastPitch_105 : decode cX1_leastPitch 105 = .ok (.invokevirtual 53, 3) := by decide +kernel
theorem dX1_leastPitch_108 : decode cX1_leastPitch 108 = .ok (.isub, 1) := by decide +kernel
theorem dX1_leastPitch_109 : decode cX1_leastPitch 109 = .ok (.goto 9, 3) := by decide +kernel
theorem dX1_leastPitch_112 : decode cX1_leastPitch 112 = .ok (.aload 10, 2) := by decide +kernel
theorem dX1_leastPitch_114 : decode cX1_leastPitch 114 = .ok (.iload_n 2, 1) := by decide +kernel
theorem dX1_leastPitch_115 : decode cX1_leastPitch 115 = .ok (.invokevirtual 49, 3) := by decide +kernel
theorem dX1_leastPitch_118 : decode cX1_leastPitch 118 = .ok (.istore 11, 2) := by decide +kernel
theorem dX1_leastPitch_120 : decode cX1_leastPitch 120 = .ok (.iload 4, 2) := by decide +kernel
theorem dX1_leastPitch_122 : decode cX1_leastPitch 122 = .ok (.ifCond .eq 15, 3) := by decide +kernel
theorem dX1_leastPitch_125 : decode cX1_leastPitch 125 = .ok (.iload 5, 2) := by decide +kernel
theorem dX1_leastPitch_127 : decode cX1_leastPitch 127 = .ok (.aload 10, 2) := by decide +kernel
theorem dX1_leastPitch_129 : decode cX1_leastPitch 129 = .ok (.iload_n 2, 1) := by decide +kernel
theorem dX1_leastPitch_130 : decode cX1_leastPitch 130 = .ok (.invokevirtual 49, 3) := by decide +kernel
theorem dX1_leastPitch_133 : decode cX1_leastPitch 133 = .ok (.isub, 1) := by decide +kernel
theorem dX1_leastPitch_134 : decode cX1_leastPitch 134 = .ok (.goto 9, 3) := by decide +kernel
theorem dX1_leastPitch_137 : decode cX1_leastPitch 137 = .ok (.aload 10, 2) := by decide +kernel
theorem dX1_leastPitch_139 : decode cX1_leastPitch 139 = .ok (.iload_n 2, 1) := by decide +kernel
theorem dX1_leastPitch_140 : decode cX1_leastPitch 140 = .ok (.invokevirtual 53, 3) := by decide +kernel
theorem dX1_leastPitch_143 : decode cX1_leastPitch 143 = .ok (.istore 12, 2) := by decide +kernel
theorem dX1_leastPitch_145 : decode cX1_leastPitch 145 = .ok (.iload 4, 2) := by decide +kernel
theorem dX1_leastPitch_147 : decode cX1_leastPitch 147 = .ok (.ifCond .eq 17, 3) := by decide +kernel
theorem dX1_leastPitch_150 : decode cX1_leastPitch 150 = .ok (.iload 6, 2) := by decide +kernel
theorem dX1_leastPitch_152 : decode cX1_leastPitch 152 = .ok (.aload 10, 2) := by decide +kernel
theorem dX1_leastPitch_154 : decode cX1_leastPitch 154 = .ok (.iconst 1, 1) := by decide +kernel
theorem dX1_leastPitch_155 : decode cX1_leastPitch 155 = .ok (.iload_n 2, 1) := by decide +kernel
theorem dX1_leastPitch_156 : decode cX1_leastPitch 156 = .ok (.isub, 1) := by decide +kernel
theorem dX1_leastPitch_157 : decode cX1_leastPitch 157 = .ok (.invokevirtual 53, 3) := by decide +kernel
theorem dX1_leastPitch_160 : decode cX1_leastPitch 160 = .ok (.isub, 1) := by decide +kernel
theorem dX1_leastPitch_161 : decode cX1_leastPitch 161 = .ok (.goto 11, 3) := by decide +kernel
theorem dX1_leastPitch_164 : decode cX1_leastPitch 164 = .ok (.aload 10, 2) := by decide +kernel
theorem dX1_leastPitch_166 : decode cX1_leastPitch 166 = .ok (.iconst 1, 1) := by decide +kernel
theorem dX1_leastPitch_167 : decode cX1_leastPitch 167 = .ok (.iload_n 2, 1) := by decide +kernel
theorem dX1_leastPitch_168 : decode cX1_leastPitch 168 = .ok (.isub, 1) := by decide +kernel
theorem dX1_leastPitch_169 : decode cX1_leastPitch 169 = .ok (.invokevirtual 49, 3) := by decide +kernel
theorem dX1_leastPitch_172 : decode cX1_leastPitch 172 = .ok (.istore 13, 2) := by decide +kernel
theorem dX1_leastPitch_174 : decode cX1_leastPitch 174 = .ok (.iload 4, 2) := by decide +kernel
theorem dX1_leastPitch_176 : decode cX1_leastPitch 176 = .ok (.ifCond .eq 17, 3) := by decide +kernel
theorem dX1_leastPitch_179 : decode cX1_leastPitch 179 = .ok (.iload 6, 2) := by decide +kernel
theorem dX1_leastPitch_181 : decode cX1_leastPitch 181 = .ok (.aload 10, 2) := by decide +kernel
theorem dX1_leastPitch_183 : decode cX1_leastPitch 183 = .ok (.iconst 1, 1) := by decide +kernel
theorem dX1_leastPitch_184 : decode cX1_leastPitch 184 = .ok (.iload_n 2, 1) := by decide +kernel
theorem dX1_leastPitch_185 : decode cX1_leastPitch 185 = .ok (.isub, 1) := by decide +kernel
theorem dX1_leastPitch_186 : decode cX1_leastPitch 186 = .ok (.invokevirtual 49, 3) := by decide +kernel
theorem dX1_leastPitch_189 : decode cX1_leastPitch 189 = .ok (.isub, 1) := by decide +kernel
theorem dX1_leastPitch_190 : decode cX1_leastPitch 190 = .ok (.goto 11, 3) := by decide +kernel
theorem dX1_leastPitch_193 : decode cX1_leastPitch 193 = .ok (.aload 10, 2) := by decide +kernel
theorem dX1_leastPitch_195 : decode cX1_leastPitch 195 = .ok (.iconst 1, 1) := by decide +kernel
theorem dX1_leastPitch_196 : decode cX1_leastPitch 196 = .ok (.iload_n 2, 1) := by decide +kernel
theorem dX1_leastPitch_197 : decode cX1_leastPitch 197 = .ok (.isub, 1) := by decide +kernel
theorem dX1_leastPitch_198 : decode cX1_leastPitch 198 = .ok (.invokevirtual 53, 3) := by decide +kernel
theorem dX1_leastPitch_201 : decode cX1_leastPitch 201 = .ok (.istore 14, 2) := by decide +kernel
theorem dX1_leastPitch_203 : decode cX1_leastPitch 203 = .ok (.aload 9, 2) := by decide +kernel
theorem dX1_leastPitch_205 : decode cX1_leastPitch 205 = .ok (.iconst 1, 1) := by decide +kernel
theorem dX1_leastPitch_206 : decode cX1_leastPitch 206 = .ok (.iload_n 2, 1) := by decide +kernel
theorem dX1_leastPitch_207 : decode cX1_leastPitch 207 = .ok (.isub, 1) := by decide +kernel
theorem dX1_leastPitch_208 : decode cX1_leastPitch 208 = .ok (.invokevirtual 49, 3) := by decide +kernel
theorem dX1_leastPitch_211 : decode cX1_leastPitch 211 = .ok (.aload 9, 2) := by decide +kernel
theorem dX1_leastPitch_213 : decode cX1_leastPitch 213 = .ok (.iconst 1, 1) := by decide +kernel
theorem dX1_leastPitch_214 : decode cX1_leastPitch 214 = .ok (.iload_n 2, 1) := by decide +kernel
theorem dX1_leastPitch_215 : decode cX1_leastPitch 215 = .ok (.isub, 1) := by decide +kernel
theorem dX1_leastPitch_216 : decode cX1_leastPitch 216 = .ok (.invokevirtual 53, 3) := by decide +kernel
theorem dX1_leastPitch_219 : decode cX1_leastPitch 219 = .ok (.iload 13, 2) := by decide +kernel
theorem dX1_leastPitch_221 : decode cX1_leastPitch 221 = .ok (.iload 14, 2) := by decide +kernel
theorem dX1_leastPitch_223 : decode cX1_leastPitch 223 = .ok (.invokestatic 89, 3) := by decide +kernel
theorem dX1_leastPitch_226 : decode cX1_leastPitch 226 = .ok (.ineg, 1) := by decide +kernel
theorem dX1_leastPitch_227 : decode cX1_leastPitch 227 = .ok (.iload_n 3, 1) := by decide +kernel
theorem dX1_leastPitch_228 : decode cX1_leastPitch 228 = .ok (.if_icmp .ge 33, 3) := by decide +kernel
theorem dX1_leastPitch_231 : decode cX1_leastPitch 231 = .ok (.aload_n 0, 1) := by decide +kernel
theorem dX1_leastPitch_232 : decode cX1_leastPitch 232 = .ok (.aload 9, 2) := by decide +kernel
theorem dX1_leastPitch_234 : decode cX1_leastPitch 234 = .ok (.iload_n 2, 1) := by decide +kernel
theorem dX1_leastPitch_235 : decode cX1_leastPitch 235 = .ok (.invokevirtual 49, 3) := by decide +kernel
theorem dX1_leastPitch_238 : decode cX1_leastPitch 238 = .ok (.iload 12, 2) := by decide +kernel
theorem dX1_leastPitch_240 : decode cX1_leastPitch 240 = .ok (.isub, 1) := by decide +kernel
theorem dX1_leastPitch_241 : decode cX1_leastPitch 241 = .ok (.iload_n 3, 1) := by decide +kernel
theorem dX1_leastPitch_242 : decode cX1_leastPitch 242 = .ok (.isub, 1) := by decide +kernel
theorem dX1_leastPitch_243 : decode cX1_leastPitch 243 = .ok (.iconst 1, 1) := by decide +kernel
theorem dX1_leastPitch_244 : decode cX1_leastPitch 244 = .ok (.iadd, 1) := by decide +kernel
theorem dX1_leastPitch_245 : decode cX1_leastPitch 245 = .ok (.aload 9, 2) := by decide +kernel
theorem dX1_leastPitch_247 : decode cX1_leastPitch 247 = .ok (.iload_n 2, 1) := by decide +kernel
theorem dX1_leastPitch_248 : decode cX1_leastPitch 248 = .ok (.invokevirtual 53, 3) := by decide +kernel
theorem dX1_leastPitch_251 : decode cX1_leastPitch 251 = .ok (.iload 11, 2) := by decide +kernel
theorem dX1_leastPitch_253 : decode cX1_leastPitch 253 = .ok (.isub, 1) := by decide +kernel
theorem dX1_leastPitch_254 : decode cX1_leastPitch 254 = .ok (.iload_n 3, 1) := by decide +kernel
theorem dX1_leastPitch_255 : decode cX1_leastPitch 255 = .ok (.iadd, 1) := by decide +kernel
theorem dX1_leastPitch_256 : decode cX1_leastPitch 256 = .ok (.iconst 1, 1) := by decide +kernel
theorem dX1_leastPitch_257 : decode cX1_leastPitch 257 = .ok (.isub, 1) := by decide +kernel
theorem dX1_leastPitch_258 : decode cX1_leastPitch 258 = .ok (.invokevirtual 95, 3) := by decide +kernel
theorem dX1_leastPitch_261 : decode cX1_leastPitch 261 = .ok (.iinc 8 1, 3) := by decide +kernel
theorem dX1_leastPitch_264 : decode cX1_leastPitch 264 = .ok (.goto (-194), 3) := by decide +kernel
theorem dX1_leastPitch_267 : decode cX1_leastPitch 267 = .ok (.iinc 7 1, 3) := by decide +kernel
theorem dX1_leastPitch_270 : decode cX1_leastPitch 270 = .ok (.goto (-212), 3) := by decide +kernel
theorem dX1_leastPitch_273 : decode cX1_leastPitch 273 = .ok (.iconst 1, 1) := by decide +kernel
theorem dX1_leastPitch_274 : decode cX1_leastPitch 274 = .ok (.istore 7, 2) := by decide +kernel
theorem dX1_leastPitch_276 : decode cX1_leastPitch 276 = .ok (.iload 7, 2) := by decide +kernel
theorem dX1_leastPitch_278 : decode cX1_leastPitch 278 = .ok (.sipush 350, 3) := by decide +kernel
theorem dX1_leastPitch_281 : decode cX1_leastPitch 281 = .ok (.if_icmp .ge 34, 3) := by decide +kernel
theorem dX1_leastPitch_284 : decode cX1_leastPitch 284 = .ok (.aload_n 0, 1) := by decide +kernel
theorem dX1_leastPitch_285 : decode cX1_leastPitch 285 = .ok (.iload 7, 2) := by decide +kernel
theorem dX1_leastPitch_287 : decode cX1_leastPitch 287 = .ok (.iload 4, 2) := by decide +kernel
theorem dX1_leastPitch_289 : decode cX1_leastPitch 289 = .ok (.ifCond .eq 8, 3) := by decide +kernel
theorem dX1_leastPitch_292 : decode cX1_leastPitch 292 = .ok (.iload 7, 2) := by decide +kernel
theorem dX1_leastPitch_294 : decode cX1_leastPitch 294 = .ok (.goto 6, 3) := by decide +kernel
theorem dX1_leastPitch_297 : decode cX1_leastPitch 297 = .ok (.sipush 350, 3) := by decide +kernel
theorem dX1_leastPitch_300 : decode cX1_leastPitch 300 = .ok (.invokevirtual 98, 3) := by decide +kernel
theorem dX1_leastPitch_303 : decode cX1_leastPitch 303 = .ok (.ifCond .eq 6, 3) := by decide +kernel
theorem dX1_leastPitch_306 : decode cX1_leastPitch 306 = .ok (.iload 7, 2) := by decide +kernel
theorem dX1_leastPitch_308 : decode cX1_leastPitch 308 = .ok (.ireturn, 1) := by decide +kernel
theorem dX1_leastPitch_309 : decode cX1_leastPitch 309 = .ok (.iinc 7 1, 3) := by decide +kernel
theorem dX1_leastPitch_312 : decode cX1_leastPitch 312 = .ok (.goto (-36), 3) := by decide +kernel
theorem dX1_leastPitch_315 : decode cX1_leastPitch 315 = .ok (.sipush 350, 3) := by decide +kernel
theorem dX1_leastPitch_318 : decode cX1_leastPitch 318 = .ok (.ireturn, 1) := by decide +kernel
theorem dX1_take_0 : decode cX1_take 0 = .ok (.iconst 0, 1) := by decide +kernel
theorem dX1_take_1 : decode cX1_take 1 = .ok (.iload_n 1, 1) := by decide +kernel
theorem dX1_take_2 : decode cX1_take 2 = .ok (.invokestatic 86, 3) := by decide +kernel
theorem dX1_take_5 : decode cX1_take 5 = .ok (.istore_n 3, 1) := by decide +kernel
theorem dX1_take_6 : decode cX1_take 6 = .ok (.iload_n 3, 1) := by decide +kernel
theorem dX1_take_7 : decode cX1_take 7 = .ok (.iload_n 2, 1) := by decide +kernel
theorem dX1_take_8 : decode cX1_take 8 = .ok (.if_icmp .gt 23, 3) := by decide +kernel
theorem dX1_take_11 : decode cX1_take 11 = .ok (.iload_n 3, 1) := by decide +kernel
theorem dX1_take_12 : decode cX1_take 12 = .ok (.sipush 350, 3) := by decide +kernel
theorem dX1_take_15 : decode cX1_take 15 = .ok (.if_icmp .gt 16, 3) := by decide +kernel
theorem dX1_take_18 : decode cX1_take 18 = .ok (.aload_n 0, 1) := by decide +kernel
theorem dX1_take_19 : decode cX1_take 19 = .ok (.getfield 16, 3) := by decide +kernel
theorem dX1_take_22 : decode cX1_take 22 = .ok (.iload_n 3, 1) := by decide +kernel
theorem dX1_take_23 : decode cX1_take 23 = .ok (.iconst 1, 1) := by decide +kernel
theorem dX1_take_24 : decode cX1_take 24 = .ok (.bastore, 1) := by decide +kernel
theorem dX1_take_25 : decode cX1_take 25 = .ok (.iinc 3 1, 3) := by decide +kernel
theorem dX1_take_28 : decode cX1_take 28 = .ok (.goto (-22), 3) := by decide +kernel
theorem dX1_take_31 : decode cX1_take 31 = .ok (.return_, 1) := by decide +kernel
theorem dX1_isFree_0 : decode cX1_isFree 0 = .ok (.iload_n 1, 1) := by decide +kernel
theorem dX1_isFree_1 : decode cX1_isFree 1 = .ok (.istore_n 3, 1) := by decide +kernel
theorem dX1_isFree_2 : decode cX1_isFree 2 = .ok (.iload_n 3, 1) := by decide +kernel
theorem dX1_isFree_3 : decode cX1_isFree 3 = .ok (.ifCond .le 33, 3) := by decide +kernel
theorem dX1_isFree_6 : decode cX1_isFree 6 = .ok (.iload_n 3, 1) := by decide +kernel
theorem dX1_isFree_7 : decode cX1_isFree 7 = .ok (.iload_n 2, 1) := by decide +kernel
theorem dX1_isFree_8 : decode cX1_isFree 8 = .ok (.if_icmp .gt 28, 3) := by decide +kernel
theorem dX1_isFree_11 : decode cX1_isFree 11 = .ok (.iload_n 3, 1) := by decide +kernel
theorem dX1_isFree_12 : decode cX1_isFree 12 = .ok (.sipush 350, 3) := by decide +kernel
theorem dX1_isFree_15 : decode cX1_isFree 15 = .ok (.if_icmp .gt 21, 3) := by decide +kernel
theorem dX1_isFree_18 : decode cX1_isFree 18 = .ok (.aload_n 0, 1) := by decide +kernel
theorem dX1_isFree_19 : decode cX1_isFree 19 = .ok (.getfield 16, 3) := by decide +kernel
theorem dX1_isFree_22 : decode cX1_isFree 22 = .ok (.iload_n 3, 1) := by decide +kernel
theorem dX1_isFree_23 : decode cX1_isFree 23 = .ok (.baload, 1) := by decide +kernel
theorem dX1_isFree_24 : decode cX1_isFree 24 = .ok (.ifCond .eq 5, 3) := by decide +kernel
theorem dX1_isFree_27 : decode cX1_isFree 27 = .ok (.iconst 0, 1) := by decide +kernel
theorem dX1_isFree_28 : decode cX1_isFree 28 = .ok (.ireturn, 1) := by decide +kernel
theorem dX1_isFree_29 : decode cX1_isFree 29 = .ok (.iload_n 3, 1) := by decide +kernel
theorem dX1_isFree_30 : decode cX1_isFree 30 = .ok (.iload_n 1, 1) := by decide +kernel
theorem dX1_isFree_31 : decode cX1_isFree 31 = .ok (.iadd, 1) := by decide +kernel
theorem dX1_isFree_32 : decode cX1_isFree 32 = .ok (.istore_n 3, 1) := by decide +kernel
theorem dX1_isFree_33 : decode cX1_isFree 33 = .ok (.goto (-31), 3) := by decide +kernel
theorem dX1_isFree_36 : decode cX1_isFree 36 = .ok (.iconst 1, 1) := by decide +kernel
theorem dX1_isFree_37 : decode cX1_isFree 37 = .ok (.ireturn, 1) := by decide +kernel
theorem dX2_init_0 : decode cX2_init 0 = .ok (.aload_n 0, 1) := by decide +kernel
theorem dX2_init_1 : decode cX2_init 1 = .ok (.invokespecial 3, 3) := by decide +kernel
theorem dX2_init_4 : decode cX2_init 4 = .ok (.aload_n 0, 1) := by decide +kernel
theorem dX2_init_5 : decode cX2_init 5 = .ok (.iconst 0, 1) := by decide +kernel
theorem dX2_init_6 : decode cX2_init 6 = .ok (.putfield 9, 3) := by decide +kernel
theorem dX2_init_9 : decode cX2_init 9 = .ok (.aload_n 0, 1) := by decide +kernel
theorem dX2_init_10 : decode cX2_init 10 = .ok (.bipush 40, 2) := by decide +kernel
theorem dX2_init_12 : decode cX2_init 12 = .ok (.newarray .int, 2) := by decide +kernel
theorem dX2_init_14 : decode cX2_init 14 = .ok (.putfield 15, 3) := by decide +kernel
theorem dX2_init_17 : decode cX2_init 17 = .ok (.aload_n 0, 1) := by decide +kernel
theorem dX2_init_18 : decode cX2_init 18 = .ok (.bipush 40, 2) := by decide +kernel
theorem dX2_init_20 : decode cX2_init 20 = .ok (.newarray .int, 2) := by decide +kernel
theorem dX2_init_22 : decode cX2_init 22 = .ok (.putfield 19, 3) := by decide +kernel
theorem dX2_init_25 : decode cX2_init 25 = .ok (.return_, 1) := by decide +kernel
theorem dX2_empty_0 : decode cX2_empty 0 = .ok (.aload_n 0, 1) := by decide +kernel
theorem dX2_empty_1 : decode cX2_empty 1 = .ok (.iconst 0, 1) := by decide +kernel
theorem dX2_empty_2 : decode cX2_empty 2 = .ok (.putfield 9, 3) := by decide +kernel
theorem dX2_empty_5 : decode cX2_empty 5 = .ok (.return_, 1) := by decide +kernel
theorem dX2_add_0 : decode cX2_add 0 = .ok (.aload_n 0, 1) := by decide +kernel
theorem dX2_add_1 : decode cX2_add 1 = .ok (.getfield 9, 3) := by decide +kernel
theorem dX2_add_4 : decode cX2_add 4 = .ok (.bipush 40, 2) := by decide +kernel
theorem dX2_add_6 : decode cX2_add 6 = .ok (.if_icmp .lt 4, 3) := by decide +kernel
theorem dX2_add_9 : decode cX2_add 9 = .ok (.return_, 1) := by decide +kernel
theorem dX2_add_10 : decode cX2_add 10 = .ok (.aload_n 0, 1) := by decide +kernel
theorem dX2_add_11 : decode cX2_add 11 = .ok (.getfield 9, 3) := by decide +kernel
theorem dX2_add_14 : decode cX2_add 14 = .ok (.istore_n 3, 1) := by decide +kernel
theorem dX2_add_15 : decode cX2_add 15 = .ok (.iload_n 3, 1) := by decide +kernel
theorem dX2_add_16 : decode cX2_add 16 = .ok (.ifCond .le 49, 3) := by decide +kernel
theorem dX2_add_19 : decode cX2_add 19 = .ok (.aload_n 0, 1) := by decide +kernel
theorem dX2_add_20 : decode cX2_add 20 = .ok (.getfield 15, 3) := by decide +kernel
theorem dX2_add_23 : decode cX2_add 23 = .ok (.iload_n 3, 1) := by decide +kernel
theorem dX2_add_24 : decode cX2_add 24 = .ok (.iconst 1, 1) := by decide +kernel
theorem dX2_add_25 : decode cX2_add 25 = .ok (.isub, 1) := by decide +kernel
theorem dX2_add_26 : decode cX2_add 26 = .ok (.iaload, 1) := by decide +kernel
theorem dX2_add_27 : decode cX2_add 27 = .ok (.iload_n 1, 1) := by decide +kernel
theorem dX2_add_28 : decode cX2_add 28 = .ok (.if_icmp .le 37, 3) := by decide +kernel
theorem dX2_add_31 : decode cX2_add 31 = .ok (.aload_n 0, 1) := by decide +kernel
theorem dX2_add_32 : decode cX2_add 32 = .ok (.getfield 15, 3) := by decide +kernel
theorem dX2_add_35 : decode cX2_add 35 = .ok (.iload_n 3, 1) := by decide +kernel
theorem dX2_add_36 : decode cX2_add 36 = .ok (.aload_n 0, 1) := by decide +kernel
theorem dX2_add_37 : decode cX2_add 37 = .ok (.getfield 15, 3) := by decide +kernel
theorem dX2_add_40 : decode cX2_add 40 = .ok (.iload_n 3, 1) := by decide +kernel
theorem dX2_add_41 : decode cX2_add 41 = .ok (.iconst 1, 1) := by decide +kernel
theorem dX2_add_42 : decode cX2_add 42 = .ok (.isub, 1) := by decide +kernel
theorem dX2_add_43 : decode cX2_add 43 = .ok (.iaload, 1) := by decide +kernel
theorem dX2_add_44 : decode cX2_add 44 = .ok (.iastore, 1) := by decide +kernel
theorem dX2_add_45 : decode cX2_add 45 = .ok (.aload_n 0, 1) := by decide +kernel
theorem dX2_add_46 : decode cX2_add 46 = .ok (.getfield 19, 3) := by decide +kernel
theorem dX2_add_49 : decode cX2_add 49 = .ok (.iload_n 3, 1) := by decide +kernel
theorem dX2_add_50 : decode cX2_add 50 = .ok (.aload_n 0, 1) := by decide +kernel
theorem dX2_add_51 : decode cX2_add 51 = .ok (.getfield 19, 3) := by decide +kernel
theorem dX2_add_54 : decode cX2_add 54 = .ok (.iload_n 3, 1) := by decide +kernel
theorem dX2_add_55 : decode cX2_add 55 = .ok (.iconst 1, 1) := by decide +kernel
theorem dX2_add_56 : decode cX2_add 56 = .ok (.isub, 1) := by decide +kernel
theorem dX2_add_57 : decode cX2_add 57 = .ok (.iaload, 1) := by decide +kernel
theorem dX2_add_58 : decode cX2_add 58 = .ok (.iastore, 1) := by decide +kernel
theorem dX2_add_59 : decode cX2_add 59 = .ok (.iinc 3 (-1), 3) := by decide +kernel
theorem dX2_add_62 : decode cX2_add 62 = .ok (.goto (-47), 3) := by decide +kernel
theorem dX2_add_65 : decode cX2_add 65 = .ok (.aload_n 0, 1) := by decide +kernel
theorem dX2_add_66 : decode cX2_add 66 = .ok (.getfield 15, 3) := by decide +kernel
theorem dX2_add_69 : decode cX2_add 69 = .ok (.iload_n 3, 1) := by decide +kernel
theorem dX2_add_70 : decode cX2_add 70 = .ok (.iload_n 1, 1) := by decide +kernel
theorem dX2_add_71 : decode cX2_add 71 = .ok (.iastore, 1) := by decide +kernel
theorem dX2_add_72 : decode cX2_add 72 = .ok (.aload_n 0, 1) := by decide +kernel
theorem dX2_add_73 : decode cX2_add 73 = .ok (.getfield 19, 3) := by decide +kernel
theorem dX2_add_76 : decode cX2_add 76 = .ok (.iload_n 3, 1) := by decide +kernel
theorem dX2_add_77 : decode cX2_add 77 = .ok (.iload_n 2, 1) := by decide +kernel
theorem dX2_add_78 : decode cX2_add 78 = .ok (.iastore, 1) := by decide +kernel
theorem dX2_add_79 : decode cX2_add 79 = .ok (.aload_n 0, 1) := by decide +kernel
theorem dX2_add_80 : decode cX2_add 80 = .ok (.dup, 1) := by decide +kernel
theorem dX2_add_81 : decode cX2_add 81 = .ok (.getfield 9, 3) := by decide +kernel
theorem dX2_add_84 : decode cX2_add 84 = .ok (.iconst 1, 1) := by decide +kernel
theorem dX2_add_85 : decode cX2_add 85 = .ok (.iadd, 1) := by decide +kernel
theorem dX2_add_86 : decode cX2_add 86 = .ok (.putfield 9, 3) := by decide +kernel
theorem dX2_add_89 : decode cX2_add 89 = .ok (.return_, 1) := by decide +kernel
theorem dX2_uncovered_0 : decode cX2_uncovered 0 = .ok (.iload_n 1, 1) := by decide +kernel
theorem dX2_uncovered_1 : decode cX2_uncovered 1 = .ok (.istore_n 3, 1) := by decide +kernel
theorem dX2_uncovered_2 : decode cX2_uncovered 2 = .ok (.iconst 0, 1) := by decide +kernel
theorem dX2_uncovered_3 : decode cX2_uncovered 3 = .ok (.istore 4, 2) := by decide +kernel
theorem dX2_uncovered_5 : decode cX2_uncovered 5 = .ok (.iconst 0, 1) := by decide +kernel
theorem dX2_uncovered_6 : decode cX2_uncovered 6 = .ok (.istore 5, 2) := by decide +kernel
theorem dX2_uncovered_8 : decode cX2_uncovered 8 = .ok (.iload 5, 2) := by decide +kernel
theorem dX2_uncovered_10 : decode cX2_uncovered 10 = .ok (.aload_n 0, 1) := by decide +kernel
theorem dX2_uncovered_11 : decode cX2_uncovered 11 = .ok (.getfield 9, 3) := by decide +kernel
theorem dX2_uncovered_14 : decode cX2_uncovered 14 = .ok (.if_icmp .ge 48, 3) := by decide +kernel
theorem dX2_uncovered_17 : decode cX2_uncovered 17 = .ok (.iload_n 3, 1) := by decide +kernel
theorem dX2_uncovered_18 : decode cX2_uncovered 18 = .ok (.iload_n 2, 1) := by decide +kernel
theorem dX2_uncovered_19 : decode cX2_uncovered 19 = .ok (.if_icmp .ge 43, 3) := by decide +kernel
theorem dX2_uncovered_22 : decode cX2_uncovered 22 = .ok (.iload 4, 2) := by decide +kernel
theorem dX2_uncovered_24 : decode cX2_uncovered 24 = .ok (.iconst 0, 1) := by decide +kernel
theorem dX2_uncovered_25 : decode cX2_uncovered 25 = .ok (.aload_n 0, 1) := by decide +kernel
theorem dX2_uncovered_26 : decode cX2_uncovered 26 = .ok (.getfield 15, 3) := by decide +kernel
theorem dX2_uncovered_29 : decode cX2_uncovered 29 = .ok (.iload 5, 2) := by decide +kernel
theorem dX2_uncovered_31 : decode cX2_uncovered 31 = .ok (.iaload, 1) := by decide +kernel
theorem dX2_uncovered_32 : decode cX2_uncovered 32 = .ok (.iload_n 2, 1) := by decide +kernel
theorem dX2_uncovered_33 : decode cX2_uncovered 33 = .ok (.invokestatic 22, 3) := by decide +kernel
theorem dX2_uncovered_36 : decode cX2_uncovered 36 = .ok (.iload_n 3, 1) := by decide +kernel
theorem dX2_uncovered_37 : decode cX2_uncovered 37 = .ok (.isub, 1) := by decide +kernel
theorem dX2_uncovered_38 : decode cX2_uncovered 38 = .ok (.invokestatic 28, 3) := by decide +kernel
theorem dX2_uncovered_41 : decode cX2_uncovered 41 = .ok (.iadd, 1) := by decide +kernel
theorem dX2_uncovered_42 : decode cX2_uncovered 42 = .ok (.istore 4, 2) := by decide +kernel
theorem dX2_uncovered_44 : decode cX2_uncovered 44 = .ok (.iload_n 3, 1) := by decide +kernel
theorem dX2_uncovered_45 : decode cX2_uncovered 45 = .ok (.aload_n 0, 1) := by decide +kernel
theorem dX2_uncovered_46 : decode cX2_uncovered 46 = .ok (.getfield 19, 3) := by decide +kernel
theorem dX2_uncovered_49 : decode cX2_uncovered 49 = .ok (.iload 5, 2) := by decide +kernel
theorem dX2_uncovered_51 : decode cX2_uncovered 51 = .ok (.iaload, 1) := by decide +kernel
theorem dX2_uncovered_52 : decode cX2_uncovered 52 = .ok (.invokestatic 28, 3) := by decide +kernel
theorem dX2_uncovered_55 : decode cX2_uncovered 55 = .ok (.istore_n 3, 1) := by decide +kernel
theorem dX2_uncovered_56 : decode cX2_uncovered 56 = .ok (.iinc 5 1, 3) := by decide +kernel
theorem dX2_uncovered_59 : decode cX2_uncovered 59 = .ok (.goto (-51), 3) := by decide +kernel
theorem dX2_uncovered_62 : decode cX2_uncovered 62 = .ok (.iload 4, 2) := by decide +kernel
theorem dX2_uncovered_64 : decode cX2_uncovered 64 = .ok (.iconst 0, 1) := by decide +kernel
theorem dX2_uncovered_65 : decode cX2_uncovered 65 = .ok (.iload_n 2, 1) := by decide +kernel
theorem dX2_uncovered_66 : decode cX2_uncovered 66 = .ok (.iload_n 3, 1) := by decide +kernel
theorem dX2_uncovered_67 : decode cX2_uncovered 67 = .ok (.isub, 1) := by decide +kernel
theorem dX2_uncovered_68 : decode cX2_uncovered 68 = .ok (.invokestatic 28, 3) := by decide +kernel
theorem dX2_uncovered_71 : decode cX2_uncovered 71 = .ok (.iadd, 1) := by decide +kernel
theorem dX2_uncovered_72 : decode cX2_uncovered 72 = .ok (.ireturn, 1) := by decide +kernel
theorem dX3_init_0 : decode cX3_init 0 = .ok (.aload_n 0, 1) := by decide +kernel
theorem dX3_init_1 : decode cX3_init 1 = .ok (.invokespecial 3, 3) := by decide +kernel
theorem dX3_init_4 : decode cX3_init 4 = .ok (.aload_n 0, 1) := by decide +kernel
theorem dX3_init_5 : decode cX3_init 5 = .ok (.iconst 4, 1) := by decide +kernel
theorem dX3_init_6 : decode cX3_init 6 = .ok (.newarray .int, 2) := by decide +kernel
theorem dX3_init_8 : decode cX3_init 8 = .ok (.putfield 9, 3) := by decide +kernel
theorem dX3_init_11 : decode cX3_init 11 = .ok (.aload_n 0, 1) := by decide +kernel
theorem dX3_init_12 : decode cX3_init 12 = .ok (.iconst 4, 1) := by decide +kernel
theorem dX3_init_13 : decode cX3_init 13 = .ok (.newarray .int, 2) := by decide +kernel
theorem dX3_init_15 : decode cX3_init 15 = .ok (.putfield 15, 3) := by decide +kernel
theorem dX3_init_18 : decode cX3_init 18 = .ok (.aload_n 0, 1) := by decide +kernel
theorem dX3_init_19 : decode cX3_init 19 = .ok (.sipush 200, 3) := by decide +kernel
theorem dX3_init_22 : decode cX3_init 22 = .ok (.putfield 18, 3) := by decide +kernel
theorem dX3_init_25 : decode cX3_init 25 = .ok (.aload_n 0, 1) := by decide +kernel
theorem dX3_init_26 : decode cX3_init 26 = .ok (.sipush 200, 3) := by decide +kernel
theorem dX3_init_29 : decode cX3_init 29 = .ok (.putfield 22, 3) := by decide +kernel
theorem dX3_init_32 : decode cX3_init 32 = .ok (.aload_n 0, 1) := by decide +kernel
theorem dX3_init_33 : decode cX3_init 33 = .ok (.iconst 0, 1) := by decide +kernel
theorem dX3_init_34 : decode cX3_init 34 = .ok (.putfield 25, 3) := by decide +kernel
theorem dX3_init_37 : decode cX3_init 37 = .ok (.aload_n 0, 1) := by decide +kernel
theorem dX3_init_38 : decode cX3_init 38 = .ok (.bipush 10, 2) := by decide +kernel
theorem dX3_init_40 : decode cX3_init 40 = .ok (.anewarray 28, 3) := by decide +kernel
theorem dX3_init_43 : decode cX3_init 43 = .ok (.putfield 30, 3) := by decide +kernel
theorem dX3_init_46 : decode cX3_init 46 = .ok (.aload_n 0, 1) := by decide +kernel
theorem dX3_init_47 : decode cX3_init 47 = .ok (.new 28, 3) := by decide +kernel
theorem dX3_init_50 : decode cX3_init 50 = .ok (.dup, 1) := by decide +kernel
theorem dX3_init_51 : decode cX3_init 51 = .ok (.invokespecial 34, 3) := by decide +kernel
theorem dX3_init_54 : decode cX3_init 54 = .ok (.putfield 35, 3) := by decide +kernel
theorem dX3_init_57 : decode cX3_init 57 = .ok (.iconst 0, 1) := by decide +kernel
theorem dX3_init_58 : decode cX3_init 58 = .ok (.istore_n 1, 1) := by decide +kernel
theorem dX3_init_59 : decode cX3_init 59 = .ok (.iload_n 1, 1) := by decide +kernel
theorem dX3_init_60 : decode cX3_init 60 = .ok (.bipush 10, 2) := by decide +kernel
theorem dX3_init_62 : decode cX3_init 62 = .ok (.if_icmp .ge 22, 3) := by decide +kernel
theorem dX3_init_65 : decode cX3_init 65 = .ok (.aload_n 0, 1) := by decide +kernel
theorem dX3_init_66 : decode cX3_init 66 = .ok (.getfield 30, 3) := by decide +kernel
theorem dX3_init_69 : decode cX3_init 69 = .ok (.iload_n 1, 1) := by decide +kernel
theorem dX3_init_70 : decode cX3_init 70 = .ok (.new 28, 3) := by decide +kernel
theorem dX3_init_73 : decode cX3_init 73 = .ok (.dup, 1) := by decide +kernel
theorem dX3_init_74 : decode cX3_init 74 = .ok (.invokespecial 34, 3) := by decide +kernel
theorem dX3_init_77 : decode cX3_init 77 = .ok (.aastore, 1) := by decide +kernel
theorem dX3_init_78 : decode cX3_init 78 = .ok (.iinc 1 1, 3) := by decide +kernel
theorem dX3_init_81 : decode cX3_init 81 = .ok (.goto (-22), 3) := by decide +kernel
theorem dX3_init_84 : decode cX3_init 84 = .ok (.return_, 1) := by decide +kernel
theorem dX3_empty_0 : decode cX3_empty 0 = .ok (.aload_n 0, 1) := by decide +kernel
theorem dX3_empty_1 : decode cX3_empty 1 = .ok (.sipush 200, 3) := by decide +kernel
theorem dX3_empty_4 : decode cX3_empty 4 = .ok (.putfield 18, 3) := by decide +kernel
theorem dX3_empty_7 : decode cX3_empty 7 = .ok (.aload_n 0, 1) := by decide +kernel
theorem dX3_empty_8 : decode cX3_empty 8 = .ok (.sipush 200, 3) := by decide +kernel
theorem dX3_empty_11 : decode cX3_empty 11 = .ok (.putfield 22, 3) := by decide +kernel
theorem dX3_empty_14 : decode cX3_empty 14 = .ok (.aload_n 0, 1) := by decide +kernel
theorem dX3_empty_15 : decode cX3_empty 15 = .ok (.iconst 0, 1) := by decide +kernel
theorem dX3_empty_16 : decode cX3_empty 16 = .ok (.putfield 25, 3) := by decide +kernel
theorem dX3_empty_19 : decode cX3_empty 19 = .ok (.iconst 0, 1) := by decide +kernel
theorem dX3_empty_20 : decode cX3_empty 20 = .ok (.istore_n 1, 1) := by decide +kernel
theorem dX3_empty_21 : decode cX3_empty 21 = .ok (.iload_n 1, 1) := by decide +kernel
theorem dX3_empty_22 : decode cX3_empty 22 = .ok (.iconst 4, 1) := by decide +kernel
theorem dX3_empty_23 : decode cX3_empty 23 = .ok (.if_icmp .ge 23, 3) := by decide +kernel
theorem dX3_empty_26 : decode cX3_empty 26 = .ok (.aload_n 0, 1) := by decide +kernel
theorem dX3_empty_27 : decode cX3_empty 27 = .ok (.getfield 9, 3) := by decide +kernel
theorem dX3_empty_30 : decode cX3_empty 30 = .ok (.iload_n 1, 1) := by decide +kernel
theorem dX3_empty_31 : decode cX3_empty 31 = .ok (.iconst 0, 1) := by decide +kernel
theorem dX3_empty_32 : decode cX3_empty 32 = .ok (.iastore, 1) := by decide +kernel
theorem dX3_empty_33 : decode cX3_empty 33 = .ok (.aload_n 0, 1) := by decide +kernel
theorem dX3_empty_34 : decode cX3_empty 34 = .ok (.getfield 15, 3) := by decide +kernel
theorem dX3_empty_37 : decode cX3_empty 37 = .ok (.iload_n 1, 1) := by decide +kernel
theorem dX3_empty_38 : decode cX3_empty 38 = .ok (.iconst 0, 1) := by decide +kernel
theorem dX3_empty_39 : decode cX3_empty 39 = .ok (.iastore, 1) := by decide +kernel
theorem dX3_empty_40 : decode cX3_empty 40 = .ok (.iinc 1 1, 3) := by decide +kernel
theorem dX3_empty_43 : decode cX3_empty 43 = .ok (.goto (-22), 3) := by decide +kernel
theorem dX3_empty_46 : decode cX3_empty 46 = .ok (.return_, 1) := by decide +kernel
theorem dX3_become_0 : decode cX3_become 0 = .ok (.aload_n 0, 1) := by decide +kernel
theorem dX3_become_1 : decode cX3_become 1 = .ok (.aload_n 1, 1) := by decide +kernel
theorem dX3_become_2 : decode cX3_become 2 = .ok (.getfield 18, 3) := by decide +kernel
theorem dX3_become_5 : decode cX3_become 5 = .ok (.putfield 18, 3) := by decide +kernel
theorem dX3_become_8 : decode cX3_become 8 = .ok (.aload_n 0, 1) := by decide +kernel
theorem dX3_become_9 : decode cX3_become 9 = .ok (.aload_n 1, 1) := by decide +kernel
theorem dX3_become_10 : decode cX3_become 10 = .ok (.getfield 22, 3) := by decide +kernel
theorem dX3_become_13 : decode cX3_become 13 = .ok (.putfield 22, 3) := by decide +kernel
theorem dX3_become_16 : decode cX3_become 16 = .ok (.aload_n 0, 1) := by decide +kernel
theorem dX3_become_17 : decode cX3_become 17 = .ok (.aload_n 1, 1) := by decide +kernel
theorem dX3_become_18 : decode cX3_become 18 = .ok (.getfield 25, 3) := by decide +kernel
theorem dX3_become_21 : decode cX3_become 21 = .ok (.putfield 25, 3) := by decide +kernel
theorem dX3_become_24 : decode cX3_become 24 = .ok (.iconst 0, 1) := by decide +kernel
theorem dX3_become_25 : decode cX3_become 25 = .ok (.istore_n 2, 1) := by decide +kernel
theorem dX3_become_26 : decode cX3_become 26 = .ok (.iload_n 2, 1) := by decide +kernel
theorem dX3_become_27 : decode cX3_become 27 = .ok (.aload_n 0, 1) := by decide +kernel
theorem dX3_become_28 : decode cX3_become 28 = .ok (.getfield 25, 3) := by decide +kernel
theorem dX3_become_31 : decode cX3_become 31 = .ok (.if_icmp .ge 22, 3) := by decide +kernel
theorem dX3_become_34 : decode cX3_become 34 = .ok (.aload_n 0, 1) := by decide +kernel
theorem dX3_become_35 : decode cX3_become 35 = .ok (.iload_n 2, 1) := by decide +kernel
theorem dX3_become_36 : decode cX3_become 36 = .ok (.invokevirtual 39, 3) := by decide +kernel
theorem dX3_become_39 : decode cX3_become 39 = .ok (.aload_n 1, 1) := by decide +kernel
theorem dX3_become_40 : decode cX3_become 40 = .ok (.iload_n 2, 1) := by decide +kernel
theorem dX3_become_41 : decode cX3_become 41 = .ok (.invokevirtual 39, 3) := by decide +kernel
theorem dX3_become_44 : decode cX3_become 44 = .ok (.invokevirtual 43, 3) := by decide +kernel
theorem dX3_become_47 : decode cX3_become 47 = .ok (.iinc 2 1, 3) := by decide +kernel
theorem dX3_become_50 : decode cX3_become 50 = .ok (.goto (-24), 3) := by decide +kernel
theorem dX3_become_53 : decode cX3_become 53 = .ok (.iconst 0, 1) := by decide +kernel
theorem dX3_become_54 : decode cX3_become 54 = .ok (.istore_n 2, 1) := by decide +kernel
theorem dX3_become_55 : decode cX3_become 55 = .ok (.iload_n 2, 1) := by decide +kernel
theorem dX3_become_56 : decode cX3_become 56 = .ok (.iconst 4, 1) := by decide +kernel
theorem dX3_become_57 : decode cX3_become 57 = .ok (.if_icmp .ge 33, 3) := by decide +kernel
theorem dX3_become_60 : decode cX3_become 60 = .ok (.aload_n 0, 1) := by decide +kernel
theorem dX3_become_61 : decode cX3_become 61 = .ok (.getfield 9, 3) := by decide +kernel
theorem dX3_become_64 : decode cX3_become 64 = .ok (.iload_n 2, 1) := by decide +kernel
theorem dX3_become_65 : decode cX3_become 65 = .ok (.aload_n 1, 1) := by decide +kernel
theorem dX3_become_66 : decode cX3_become 66 = .ok (.getfield 9, 3) := by decide +kernel
theorem dX3_become_69 : decode cX3_become 69 = .ok (.iload_n 2, 1) := by decide +kernel
theorem dX3_become_70 : decode cX3_become 70 = .ok (.iaload, 1) := by decide +kernel
theorem dX3_become_71 : decode cX3_become 71 = .ok (.iastore, 1) := by decide +kernel
theorem dX3_become_72 : decode cX3_become 72 = .ok (.aload_n 0, 1) := by decide +kernel
theorem dX3_become_73 : decode cX3_become 73 = .ok (.getfield 15, 3) := by decide +kernel
theorem dX3_become_76 : decode cX3_become 76 = .ok (.iload_n 2, 1) := by decide +kernel
theorem dX3_become_77 : decode cX3_become 77 = .ok (.aload_n 1, 1) := by decide +kernel
theorem dX3_become_78 : decode cX3_become 78 = .ok (.getfield 15, 3) := by decide +kernel
theorem dX3_become_81 : decode cX3_become 81 = .ok (.iload_n 2, 1) := by decide +kernel
theorem dX3_become_82 : decode cX3_become 82 = .ok (.iaload, 1) := by decide +kernel
theorem dX3_become_83 : decode cX3_become 83 = .ok (.iastore, 1) := by decide +kernel
theorem dX3_become_84 : decode cX3_become 84 = .ok (.iinc 2 1, 3) := by decide +kernel
theorem dX3_become_87 : decode cX3_become 87 = .ok (.goto (-32), 3) := by decide +kernel
theorem dX3_become_90 : decode cX3_become 90 = .ok (.return_, 1) := by decide +kernel
theorem dX3_panelAt_0 : decode cX3_panelAt 0 = .ok (.iload_n 1, 1) := by decide +kernel
theorem dX3_panelAt_1 : decode cX3_panelAt 1 = .ok (.ifCond .lt 18, 3) := by decide +kernel
theorem dX3_panelAt_4 : decode cX3_panelAt 4 = .ok (.iload_n 1, 1) := by decide +kernel
theorem dX3_panelAt_5 : decode cX3_panelAt 5 = .ok (.bipush 10, 2) := by decide +kernel
theorem dX3_panelAt_7 : decode cX3_panelAt 7 = .ok (.if_icmp .ge 12, 3) := by decide +kernel
theorem dX3_panelAt_10 : decode cX3_panelAt 10 = .ok (.aload_n 0, 1) := by decide +kernel
theorem dX3_panelAt_11 : decode cX3_panelAt 11 = .ok (.getfield 30, 3) := by decide +kernel
theorem dX3_panelAt_14 : decode cX3_panelAt 14 = .ok (.iload_n 1, 1) := by decide +kernel
theorem dX3_panelAt_15 : decode cX3_panelAt 15 = .ok (.aaload, 1) := by decide +kernel
theorem dX3_panelAt_16 : decode cX3_panelAt 16 = .ok (.goto 7, 3) := by decide +kernel
theorem dX3_panelAt_19 : decode cX3_panelAt 19 = .ok (.aload_n 0, 1) := by decide +kernel
theorem dX3_panelAt_20 : decode cX3_panelAt 20 = .ok (.getfield 35, 3) := by decide +kernel
theorem dX3_panelAt_23 : decode cX3_panelAt 23 = .ok (.areturn, 1) := by decide +kernel
theorem dX3_has_0 : decode cX3_has 0 = .ok (.iload_n 1, 1) := by decide +kernel
theorem dX3_has_1 : decode cX3_has 1 = .ok (.ifCond .lt 15, 3) := by decide +kernel
theorem dX3_has_4 : decode cX3_has 4 = .ok (.iload_n 1, 1) := by decide +kernel
theorem dX3_has_5 : decode cX3_has 5 = .ok (.aload_n 0, 1) := by decide +kernel
theorem dX3_has_6 : decode cX3_has 6 = .ok (.getfield 25, 3) := by decide +kernel
theorem dX3_has_9 : decode cX3_has 9 = .ok (.if_icmp .ge 7, 3) := by decide +kernel
theorem dX3_has_12 : decode cX3_has 12 = .ok (.iconst 1, 1) := by decide +kernel
theorem dX3_has_13 : decode cX3_has 13 = .ok (.goto 4, 3) := by decide +kernel
theorem dX3_has_16 : decode cX3_has 16 = .ok (.iconst 0, 1) := by decide +kernel
theorem dX3_has_17 : decode cX3_has 17 = .ok (.ireturn, 1) := by decide +kernel
theorem dX3_hangs_0 : decode cX3_hangs 0 = .ok (.iload_n 1, 1) := by decide +kernel
theorem dX3_hangs_1 : decode cX3_hangs 1 = .ok (.iconst 1, 1) := by decide +kernel
theorem dX3_hangs_2 : decode cX3_hangs 2 = .ok (.if_icmp .lt 15, 3) := by decide +kernel
theorem dX3_hangs_5 : decode cX3_hangs 5 = .ok (.iload_n 1, 1) := by decide +kernel
theorem dX3_hangs_6 : decode cX3_hangs 6 = .ok (.aload_n 0, 1) := by decide +kernel
theorem dX3_hangs_7 : decode cX3_hangs 7 = .ok (.getfield 25, 3) := by decide +kernel
theorem dX3_hangs_10 : decode cX3_hangs 10 = .ok (.if_icmp .ge 7, 3) := by decide +kernel
theorem dX3_hangs_13 : decode cX3_hangs 13 = .ok (.iconst 1, 1) := by decide +kernel
theorem dX3_hangs_14 : decode cX3_hangs 14 = .ok (.goto 4, 3) := by decide +kernel
theorem dX3_hangs_17 : decode cX3_hangs 17 = .ok (.iconst 0, 1) := by decide +kernel
theorem dX3_hangs_18 : decode cX3_hangs 18 = .ok (.ireturn, 1) := by decide +kernel
theorem dX3_hasImage_0 : decode cX3_hasImage 0 = .ok (.iload_n 1, 1) := by decide +kernel
theorem dX3_hasImage_1 : decode cX3_hasImage 1 = .ok (.ifCond .lt 21, 3) := by decide +kernel
theorem dX3_hasImage_4 : decode cX3_hasImage 4 = .ok (.iload_n 1, 1) := by decide +kernel
theorem dX3_hasImage_5 : decode cX3_hasImage 5 = .ok (.iconst 4, 1) := by decide +kernel
theorem dX3_hasImage_6 : decode cX3_hasImage 6 = .ok (.if_icmp .ge 16, 3) := by decide +kernel
theorem dX3_hasImage_9 : decode cX3_hasImage 9 = .ok (.aload_n 0, 1) := by decide +kernel
theorem dX3_hasImage_10 : decode cX3_hasImage 10 = .ok (.getfield 9, 3) := by decide +kernel
theorem dX3_hasImage_13 : decode cX3_hasImage 13 = .ok (.iload_n 1, 1) := by decide +kernel
theorem dX3_hasImage_14 : decode cX3_hasImage 14 = .ok (.iaload, 1) := by decide +kernel
theorem dX3_hasImage_15 : decode cX3_hasImage 15 = .ok (.ifCond .le 7, 3) := by decide +kernel
theorem dX3_hasImage_18 : decode cX3_hasImage 18 = .ok (.iconst 1, 1) := by decide +kernel
theorem dX3_hasImage_19 : decode cX3_hasImage 19 = .ok (.goto 4, 3) := by decide +kernel
theorem dX3_hasImage_22 : decode cX3_hasImage 22 = .ok (.iconst 0, 1) := by decide +kernel
theorem dX3_hasImage_23 : decode cX3_hasImage 23 = .ok (.ireturn, 1) := by decide +kernel
theorem dX3_imageWidthOf_0 : decode cX3_imageWidthOf 0 = .ok (.iload_n 1, 1) := by decide +kernel
theorem dX3_imageWidthOf_1 : decode cX3_imageWidthOf 1 = .ok (.ifCond .lt 17, 3) := by decide +kernel
theorem dX3_imageWidthOf_4 : decode cX3_imageWidthOf 4 = .ok (.iload_n 1, 1) := by decide +kernel
theorem dX3_imageWidthOf_5 : decode cX3_imageWidthOf 5 = .ok (.iconst 4, 1) := by decide +kernel
theorem dX3_imageWidthOf_6 : decode cX3_imageWidthOf 6 = .ok (.if_icmp .ge 12, 3) := by decide +kernel
theorem dX3_imageWidthOf_9 : decode cX3_imageWidthOf 9 = .ok (.aload_n 0, 1) := by decide +kernel
theorem dX3_imageWidthOf_10 : decode cX3_imageWidthOf 10 = .ok (.getfield 9, 3) := by decide +kernel
theorem dX3_imageWidthOf_13 : decode cX3_imageWidthOf 13 = .ok (.iload_n 1, 1) := by decide +kernel
theorem dX3_imageWidthOf_14 : decode cX3_imageWidthOf 14 = .ok (.iaload, 1) := by decide +kernel
theorem dX3_imageWidthOf_15 : decode cX3_imageWidthOf 15 = .ok (.goto 4, 3) := by decide +kernel
theorem dX3_imageWidthOf_18 : decode cX3_imageWidthOf 18 = .ok (.iconst 0, 1) := by decide +kernel
theorem dX3_imageWidthOf_19 : decode cX3_imageWidthOf 19 = .ok (.ireturn, 1) := by decide +kernel
theorem dX3_imageHeightOf_0 : decode cX3_imageHeightOf 0 = .ok (.iload_n 1, 1) := by decide +kernel
theorem dX3_imageHeightOf_1 : decode cX3_imageHeightOf 1 = .ok (.ifCond .lt 17, 3) := by decide +kernel
theorem dX3_imageHeightOf_4 : decode cX3_imageHeightOf 4 = .ok (.iload_n 1, 1) := by decide +kernel
theorem dX3_imageHeightOf_5 : decode cX3_imageHeightOf 5 = .ok (.iconst 4, 1) := by decide +kernel
theorem dX3_imageHeightOf_6 : decode cX3_imageHeightOf 6 = .ok (.if_icmp .ge 12, 3) := by decide +kernel
theorem dX3_imageHeightOf_9 : decode cX3_imageHeightOf 9 = .ok (.aload_n 0, 1) := by decide +kernel
theorem dX3_imageHeightOf_10 : decode cX3_imageHeightOf 10 = .ok (.getfield 15, 3) := by decide +kernel
theorem dX3_imageHeightOf_13 : decode cX3_imageHeightOf 13 = .ok (.iload_n 1, 1) := by decide +kernel
theorem dX3_imageHeightOf_14 : decode cX3_imageHeightOf 14 = .ok (.iaload, 1) := by decide +kernel
theorem dX3_imageHeightOf_15 : decode cX3_imageHeightOf 15 = .ok (.goto 4, 3) := by decide +kernel
theorem dX3_imageHeightOf_18 : decode cX3_imageHeightOf 18 = .ok (.iconst 0, 1) := by decide +kernel
theorem dX3_imageHeightOf_19 : decode cX3_imageHeightOf 19 = .ok (.ireturn, 1) := by decide +kernel
theorem dX3_sheetFault_0 : decode cX3_sheetFault 0 = .ok (.iload_n 1, 1) := by decide +kernel
theorem dX3_sheetFault_1 : decode cX3_sheetFault 1 = .ok (.bipush 20, 2) := by decide +kernel
theorem dX3_sheetFault_3 : decode cX3_sheetFault 3 = .ok (.if_icmp .lt 23, 3) := by decide +kernel
theorem dX3_sheetFault_6 : decode cX3_sheetFault 6 = .ok (.iload_n 1, 1) := by decide +kernel
theorem dX3_sheetFault_7 : decode cX3_sheetFault 7 = .ok (.sipush 300, 3) := by decide +kernel
theorem dX3_sheetFault_10 : decode cX3_sheetFault 10 = .ok (.if_icmp .gt 16, 3) := by decide +kernel
theorem dX3_sheetFault_13 : decode cX3_sheetFault 13 = .ok (.iload_n 2, 1) := by decide +kernel
theorem dX3_sheetFault_14 : decode cX3_sheetFault 14 = .ok (.bipush 20, 2) := by decide +kernel
theorem dX3_sheetFault_16 : decode cX3_sheetFault 16 = .ok (.if_icmp .lt 10, 3) := by decide +kernel
theorem dX3_sheetFault_19 : decode cX3_sheetFault 19 = .ok (.iload_n 2, 1) := by decide +kernel
theorem dX3_sheetFault_20 : decode cX3_sheetFault 20 = .ok (.sipush 300, 3) := by decide +kernel
theorem dX3_sheetFault_23 : decode cX3_sheetFault 23 = .ok (.if_icmp .le 5, 3) := by decide +kernel
theorem dX3_sheetFault_26 : decode cX3_sheetFault 26 = .ok (.iconst (-1), 1) := by decide +kernel
theorem dX3_sheetFault_27 : decode cX3_sheetFault 27 = .ok (.ireturn, 1) := by decide +kernel
theorem dX3_sheetFault_28 : decode cX3_sheetFault 28 = .ok (.iconst 0, 1) := by decide +kernel
theorem dX3_sheetFault_29 : decode cX3_sheetFault 29 = .ok (.istore_n 3, 1) := by decide +kernel
theorem dX3_sheetFault_30 : decode cX3_sheetFault 30 = .ok (.iload_n 3, 1) := by decide +kernel
theorem dX3_sheetFault_31 : decode cX3_sheetFault 31 = .ok (.aload_n 0, 1) := by decide +kernel
theorem dX3_sheetFault_32 : decode cX3_sheetFault 32 = .ok (.getfield 25, 3) := by decide +kernel
theorem dX3_sheetFault_35 : decode cX3_sheetFault 35 = .ok (.if_icmp .ge 49, 3) := by decide +kernel
theorem dX3_sheetFault_38 : decode cX3_sheetFault 38 = .ok (.aload_n 0, 1) := by decide +kernel
theorem dX3_sheetFault_39 : decode cX3_sheetFault 39 = .ok (.iload_n 3, 1) := by decide +kernel
theorem dX3_sheetFault_40 : decode cX3_sheetFault 40 = .ok (.invokevirtual 39, 3) := by decide +kernel
theorem dX3_sheetFault_43 : decode cX3_sheetFault 43 = .ok (.astore 4, 2) := by decide +kernel
theorem dX3_sheetFault_45 : decode cX3_sheetFault 45 = .ok (.aload 4, 2) := by decide +kernel
theorem dX3_sheetFault_47 : decode cX3_sheetFault 47 = .ok (.getfield 47, 3) := by decide +kernel
theorem dX3_sheetFault_50 : decode cX3_sheetFault 50 = .ok (.aload 4, 2) := by decide +kernel
theorem dX3_sheetFault_52 : decode cX3_sheetFault 52 = .ok (.getfield 50, 3) := by decide +kernel
theorem dX3_sheetFault_55 : decode cX3_sheetFault 55 = .ok (.iadd, 1) := by decide +kernel
theorem dX3_sheetFault_56 : decode cX3_sheetFault 56 = .ok (.iload_n 1, 1) := by decide +kernel
theorem dX3_sheetFault_57 : decode cX3_sheetFault 57 = .ok (.if_icmp .gt 18, 3) := by decide +kernel
theorem dX3_sheetFault_60 : decode cX3_sheetFault 60 = .ok (.aload 4, 2) := by decide +kernel
theorem dX3_sheetFault_62 : decode cX3_sheetFault 62 = .ok (.getfield 53, 3) := by decide +kernel
theorem dX3_sheetFault_65 : decode cX3_sheetFault 65 = .ok (.aload 4, 2) := by decide +kernel
theorem dX3_sheetFault_67 : decode cX3_sheetFault 67 = .ok (.getfield 56, 3) := by decide +kernel
theorem dX3_sheetFault_70 : decode cX3_sheetFault 70 = .ok (.iadd, 1) := by decide +kernel
theorem dX3_sheetFault_71 : decode cX3_sheetFault 71 = .ok (.iload_n 2, 1) := by decide +kernel
theorem dX3_sheetFault_72 : decode cX3_sheetFault 72 = .ok (.if_icmp .le 6, 3) := by decide +kernel
theorem dX3_sheetFault_75 : decode cX3_sheetFault 75 = .ok (.bipush (-4), 2) := by decide +kernel
theorem dX3_sheetFault_77 : decode cX3_sheetFault 77 = .ok (.ireturn, 1) := by decide +kernel
theorem dX3_sheetFault_78 : decode cX3_sheetFault 78 = .ok (.iinc 3 1, 3) := by decide +kernel
theorem dX3_sheetFault_81 : decode cX3_sheetFault 81 = .ok (.goto (-51), 3) := by decide +kernel
theorem dX3_sheetFault_84 : decode cX3_sheetFault 84 = .ok (.iconst 0, 1) := by decide +kernel
theorem dX3_sheetFault_85 : decode cX3_sheetFault 85 = .ok (.ireturn, 1) := by decide +kernel
theorem dX3_changeSheet_0 : decode cX3_changeSheet 0 = .ok (.aload_n 0, 1) := by decide +kernel
theorem dX3_changeSheet_1 : decode cX3_changeSheet 1 = .ok (.getfield 18, 3) := by decide +kernel
theorem dX3_changeSheet_4 : decode cX3_changeSheet 4 = .ok (.istore_n 3, 1) := by decide +kernel
theorem dX3_changeSheet_5 : decode cX3_changeSheet 5 = .ok (.aload_n 0, 1) := by decide +kernel
theorem dX3_changeSheet_6 : decode cX3_changeSheet 6 = .ok (.iload_n 1, 1) := by decide +kernel
theorem dX3_changeSheet_7 : decode cX3_changeSheet 7 = .ok (.putfield 18, 3) := by decide +kernel
theorem dX3_changeSheet_10 : decode cX3_changeSheet 10 = .ok (.aload_n 0, 1) := by decide +kernel
theorem dX3_changeSheet_11 : decode cX3_changeSheet 11 = .ok (.iload_n 2, 1) := by decide +kernel
theorem dX3_changeSheet_12 : decode cX3_changeSheet 12 = .ok (.putfield 22, 3) := by decide +kernel
theorem dX3_changeSheet_15 : decode cX3_changeSheet 15 = .ok (.iload_n 3, 1) := by decide +kernel
theorem dX3_changeSheet_16 : decode cX3_changeSheet 16 = .ok (.ireturn, 1) := by decide +kernel
theorem dX3_baseFault_0 : decode cX3_baseFault 0 = .ok (.iload_n 1, 1) := by decide +kernel
theorem dX3_baseFault_1 : decode cX3_baseFault 1 = .ok (.invokestatic 59, 3) := by decide +kernel
theorem dX3_baseFault_4 : decode cX3_baseFault 4 = .ok (.ifCond .eq 25, 3) := by decide +kernel
theorem dX3_baseFault_7 : decode cX3_baseFault 7 = .ok (.iload_n 2, 1) := by decide +kernel
theorem dX3_baseFault_8 : decode cX3_baseFault 8 = .ok (.invokestatic 59, 3) := by decide +kernel
theorem dX3_baseFault_11 : decode cX3_baseFault 11 = .ok (.ifCond .eq 18, 3) := by decide +kernel
theorem dX3_baseFault_14 : decode cX3_baseFault 14 = .ok (.iload_n 3, 1) := by decide +kernel
theorem dX3_baseFault_15 : decode cX3_baseFault 15 = .ok (.invokestatic 63, 3) := by decide +kernel
theorem dX3_baseFault_18 : decode cX3_baseFault 18 = .ok (.ifCond .eq 11, 3) := by decide +kernel
theorem dX3_baseFault_21 : decode cX3_baseFault 21 = .ok (.iload 4, 2) := by decide +kernel
theorem dX3_baseFault_23 : decode cX3_baseFault 23 = .ok (.invokestatic 63, 3) := by decide +kernel
theorem dX3_baseFault_26 : decode cX3_baseFault 26 = .ok (.ifCond .ne 5, 3) := by decide +kernel
theorem dX3_baseFault_29 : decode cX3_baseFault 29 = .ok (.iconst (-1), 1) := by decide +kernel
theorem dX3_baseFault_30 : decode cX3_baseFault 30 = .ok (.ireturn, 1) := by decide +kernel
theorem dX3_baseFault_31 : decode cX3_baseFault 31 = .ok (.iload_n 1, 1) := by decide +kernel
theorem dX3_baseFault_32 : decode cX3_baseFault 32 = .ok (.iload_n 3, 1) := by decide +kernel
theorem dX3_baseFault_33 : decode cX3_baseFault 33 = .ok (.iadd, 1) := by decide +kernel
theorem dX3_baseFault_34 : decode cX3_baseFault 34 = .ok (.aload_n 0, 1) := by decide +kernel
theorem dX3_baseFault_35 : decode cX3_baseFault 35 = .ok (.getfield 18, 3) := by decide +kernel
theorem dX3_baseFault_38 : decode cX3_baseFault 38 = .ok (.if_icmp .gt 14, 3) := by decide +kernel
theorem dX3_baseFault_41 : decode cX3_baseFault 41 = .ok (.iload_n 2, 1) := by decide +kernel
theorem dX3_baseFault_42 : decode cX3_baseFault 42 = .ok (.iload 4, 2) := by decide +kernel
theorem dX3_baseFault_44 : decode cX3_baseFault 44 = .ok (.iadd, 1) := by decide +kernel
theorem dX3_baseFault_45 : decode cX3_baseFault 45 = .ok (.aload_n 0, 1) := by decide +kernel
theorem dX3_baseFault_46 : decode cX3_baseFault 46 = .ok (.getfield 22, 3) := by decide +kernel
theorem dX3_baseFault_49 : decode cX3_baseFault 49 = .ok (.if_icmp .le 8, 3) := by decide +kernel
theorem dX3_baseFault_52 : decode cX3_baseFault 52 = .ok (.bipush (-4), 2) := by decide +kernel
theorem dX3_baseFault_54 : decode cX3_baseFault 54 = .ok (.goto 4, 3) := by decide +kernel
theorem dX3_baseFault_57 : decode cX3_baseFault 57 = .ok (.iconst 0, 1) := by decide +kernel
theorem dX3_baseFault_58 : decode cX3_baseFault 58 = .ok (.ireturn, 1) := by decide +kernel
theorem dX3_startBase_0 : decode cX3_startBase 0 = .ok (.aload_n 0, 1) := by decide +kernel
theorem dX3_startBase_1 : decode cX3_startBase 1 = .ok (.getfield 25, 3) := by decide +kernel
theorem dX3_startBase_4 : decode cX3_startBase 4 = .ok (.istore 5, 2) := by decide +kernel
theorem dX3_startBase_6 : decode cX3_startBase 6 = .ok (.aload_n 0, 1) := by decide +kernel
theorem dX3_startBase_7 : decode cX3_startBase 7 = .ok (.iconst 0, 1) := by decide +kernel
theorem dX3_startBase_8 : decode cX3_startBase 8 = .ok (.invokevirtual 39, 3) := by decide +kernel
theorem dX3_startBase_11 : decode cX3_startBase 11 = .ok (.astore 6, 2) := by decide +kernel
theorem dX3_startBase_13 : decode cX3_startBase 13 = .ok (.aload 6, 2) := by decide +kernel
theorem dX3_startBase_15 : decode cX3_startBase 15 = .ok (.invokevirtual 66, 3) := by decide +kernel
theorem dX3_startBase_18 : decode cX3_startBase 18 = .ok (.aload 6, 2) := by decide +kernel
theorem dX3_startBase_20 : decode cX3_startBase 20 = .ok (.bipush (-9), 2) := by decide +kernel
theorem dX3_startBase_22 : decode cX3_startBase 22 = .ok (.putfield 69, 3) := by decide +kernel
theorem dX3_startBase_25 : decode cX3_startBase 25 = .ok (.aload 6, 2) := by decide +kernel
theorem dX3_startBase_27 : decode cX3_startBase 27 = .ok (.bipush (-9), 2) := by decide +kernel
theorem dX3_startBase_29 : decode cX3_startBase 29 = .ok (.putfield 72, 3) := by decide +kernel
theorem dX3_startBase_32 : decode cX3_startBase 32 = .ok (.aload 6, 2) := by decide +kernel
theorem dX3_startBase_34 : decode cX3_startBase 34 = .ok (.iconst 0, 1) := by decide +kernel
theorem dX3_startBase_35 : decode cX3_startBase 35 = .ok (.putfield 75, 3) := by decide +kernel
theorem dX3_startBase_38 : decode cX3_startBase 38 = .ok (.aload 6, 2) := by decide +kernel
theorem dX3_startBase_40 : decode cX3_startBase 40 = .ok (.iload_n 1, 1) := by decide +kernel
theorem dX3_startBase_41 : decode cX3_startBase 41 = .ok (.putfield 47, 3) := by decide +kernel
theorem dX3_startBase_44 : decode cX3_startBase 44 = .ok (.aload 6, 2) := by decide +kernel
theorem dX3_startBase_46 : decode cX3_startBase 46 = .ok (.iload_n 2, 1) := by decide +kernel
theorem dX3_startBase_47 : decode cX3_startBase 47 = .ok (.putfield 53, 3) := by decide +kernel
theorem dX3_startBase_50 : decode cX3_startBase 50 = .ok (.aload 6, 2) := by decide +kernel
theorem dX3_startBase_52 : decode cX3_startBase 52 = .ok (.iload_n 3, 1) := by decide +kernel
theorem dX3_startBase_53 : decode cX3_startBase 53 = .ok (.putfield 50, 3) := by decide +kernel
theorem dX3_startBase_56 : decode cX3_startBase 56 = .ok (.aload 6, 2) := by decide +kernel
theorem dX3_startBase_58 : decode cX3_startBase 58 = .ok (.iload 4, 2) := by decide +kernel
theorem dX3_startBase_60 : decode cX3_startBase 60 = .ok (.putfield 56, 3) := by decide +kernel
theorem dX3_startBase_63 : decode cX3_startBase 63 = .ok (.aload_n 0, 1) := by decide +kernel
theorem dX3_startBase_64 : decode cX3_startBase 64 = .ok (.iconst 1, 1) := by decide +kernel
theorem dX3_startBase_65 : decode cX3_startBase 65 = .ok (.putfield 25, 3) := by decide +kernel
theorem dX3_startBase_68 : decode cX3_startBase 68 = .ok (.iload 5, 2) := by decide +kernel
theorem dX3_startBase_70 : decode cX3_startBase 70 = .ok (.ireturn, 1) := by decide +kernel
theorem dX3_hangFault_0 : decode cX3_hangFault 0 = .ok (.aload_n 0, 1) := by decide +kernel
theorem dX3_hangFault_1 : decode cX3_hangFault 1 = .ok (.iload_n 1, 1) := by decide +kernel
theorem dX3_hangFault_2 : decode cX3_hangFault 2 = .ok (.invokevirtual 78, 3) := by decide +kernel
theorem dX3_hangFault_5 : decode cX3_hangFault 5 = .ok (.ifCond .eq 43, 3) := by decide +kernel
theorem dX3_hangFault_8 : decode cX3_hangFault 8 = .ok (.iload_n 2, 1) := by decide +kernel
theorem dX3_hangFault_9 : decode cX3_hangFault 9 = .ok (.ifCond .lt 39, 3) := by decide +kernel
theorem dX3_hangFault_12 : decode cX3_hangFault 12 = .ok (.iload_n 2, 1) := by decide +kernel
theorem dX3_hangFault_13 : decode cX3_hangFault 13 = .ok (.iconst 3, 1) := by decide +kernel
theorem dX3_hangFault_14 : decode cX3_hangFault 14 = .ok (.if_icmp .gt 34, 3) := by decide +kernel
theorem dX3_hangFault_17 : decode cX3_hangFault 17 = .ok (.iload_n 3, 1) := by decide +kernel
theorem dX3_hangFault_18 : decode cX3_hangFault 18 = .ok (.invokestatic 59, 3) := by decide +kernel
theorem dX3_hangFault_21 : decode cX3_hangFault 21 = .ok (.ifCond .eq 27, 3) := by decide +kernel
theorem dX3_hangFault_24 : decode cX3_hangFault 24 = .ok (.iload 4, 2) := by decide +kernel
theorem dX3_hangFault_26 : decode cX3_hangFault 26 = .ok (.invokestatic 63, 3) := by decide +kernel
theorem dX3_hangFault_29 : decode cX3_hangFault 29 = .ok (.ifCond .eq 19, 3) := by decide +kernel
theorem dX3_hangFault_32 : decode cX3_hangFault 32 = .ok (.iload 5, 2) := by decide +kernel
theorem dX3_hangFault_34 : decode cX3_hangFault 34 = .ok (.invokestatic 63, 3) := by decide +kernel
theorem dX3_hangFault_37 : decode cX3_hangFault 37 = .ok (.ifCond .eq 11, 3) := by decide +kernel
theorem dX3_hangFault_40 : decode cX3_hangFault 40 = .ok (.iload 6, 2) := by decide +kernel
theorem dX3_hangFault_42 : decode cX3_hangFault 42 = .ok (.invokestatic 81, 3) := by decide +kernel
theorem dX3_hangFault_45 : decode cX3_hangFault 45 = .ok (.ifCond .ne 5, 3) := by decide +kernel
theorem dX3_hangFault_48 : decode cX3_hangFault 48 = .ok (.iconst (-1), 1) := by decide +kernel
theorem dX3_hangFault_49 : decode cX3_hangFault 49 = .ok (.ireturn, 1) := by decide +kernel
theorem dX3_hangFault_50 : decode cX3_hangFault 50 = .ok (.aload_n 0, 1) := by decide +kernel
theorem dX3_hangFault_51 : decode cX3_hangFault 51 = .ok (.getfield 25, 3) := by decide +kernel
theorem dX3_hangFault_54 : decode cX3_hangFault 54 = .ok (.bipush 10, 2) := by decide +kernel
theorem dX3_hangFault_56 : decode cX3_hangFault 56 = .ok (.if_icmp .lt 6, 3) := by decide +kernel
theorem dX3_hangFault_59 : decode cX3_hangFault 59 = .ok (.bipush (-3), 2) := by decide +kernel
theorem dX3_hangFault_61 : decode cX3_hangFault 61 = .ok (.ireturn, 1) := by decide +kernel
theorem dX3_hangFault_62 : decode cX3_hangFault 62 = .ok (.aload_n 0, 1) := by decide +kernel
theorem dX3_hangFault_63 : decode cX3_hangFault 63 = .ok (.iload_n 1, 1) := by decide +kernel
theorem dX3_hangFault_64 : decode cX3_hangFault 64 = .ok (.iload_n 2, 1) := by decide +kernel
theorem dX3_hangFault_65 : decode cX3_hangFault 65 = .ok (.iload_n 3, 1) := by decide +kernel
theorem dX3_hangFault_66 : decode cX3_hangFault 66 = .ok (.iload 4, 2) := by decide +kernel
theorem dX3_hangFault_68 : decode cX3_hangFault 68 = .ok (.iload 5, 2) := by decide +kernel
theorem dX3_hangFault_70 : decode cX3_hangFault 70 = .ok (.iload 6, 2) := by decide +kernel
theorem dX3_hangFault_72 : decode cX3_hangFault 72 = .ok (.invokevirtual 84, 3) := by decide +kernel
theorem dX3_hangFault_75 : decode cX3_hangFault 75 = .ok (.aload_n 0, 1) := by decide +kernel
theorem dX3_hangFault_76 : decode cX3_hangFault 76 = .ok (.aload_n 0, 1) := by decide +kernel
theorem dX3_hangFault_77 : decode cX3_hangFault 77 = .ok (.getfield 25, 3) := by decide +kernel
theorem dX3_hangFault_80 : decode cX3_hangFault 80 = .ok (.invokevirtual 88, 3) := by decide +kernel
theorem dX3_hangFault_83 : decode cX3_hangFault 83 = .ok (.ifCond .eq 7, 3) := by decide +kernel
theorem dX3_hangFault_86 : decode cX3_hangFault 86 = .ok (.iconst 0, 1) := by decide +kernel
theorem dX3_hangFault_87 : decode cX3_hangFault 87 = .ok (.goto 5, 3) := by decide +kernel
theorem dX3_hangFault_90 : decode cX3_hangFault 90 = .ok (.bipush (-4), 2) := by decide +kernel
theorem dX3_hangFault_92 : decode cX3_hangFault 92 = .ok (.ireturn, 1) := by decide +kernel
theorem dX3_hang_0 : decode cX3_hang 0 = .ok (.aload_n 0, 1) := by decide +kernel
theorem dX3_hang_1 : decode cX3_hang 1 = .ok (.iload_n 1, 1) := by decide +kernel
theorem dX3_hang_2 : decode cX3_hang 2 = .ok (.iload_n 2, 1) := by decide +kernel
theorem dX3_hang_3 : decode cX3_hang 3 = .ok (.iload_n 3, 1) := by decide +kernel
theorem dX3_hang_4 : decode cX3_hang 4 = .ok (.iload 4, 2) := by decide +kernel
theorem dX3_hang_6 : decode cX3_hang 6 = .ok (.iload 5, 2) := by decide +kernel
theorem dX3_hang_8 : decode cX3_hang 8 = .ok (.iload 6, 2) := by decide +kernel
theorem dX3_hang_10 : decode cX3_hang 10 = .ok (.invokevirtual 84, 3) := by decide +kernel
theorem dX3_hang_13 : decode cX3_hang 13 = .ok (.aload_n 0, 1) := by decide +kernel
theorem dX3_hang_14 : decode cX3_hang 14 = .ok (.dup, 1) := by decide +kernel
theorem dX3_hang_15 : decode cX3_hang 15 = .ok (.getfield 25, 3) := by decide +kernel
theorem dX3_hang_18 : decode cX3_hang 18 = .ok (.iconst 1, 1) := by decide +kernel
theorem dX3_hang_19 : decode cX3_hang 19 = .ok (.iadd, 1) := by decide +kernel
theorem dX3_hang_20 : decode cX3_hang 20 = .ok (.putfield 25, 3) := by decide +kernel
theorem dX3_hang_23 : decode cX3_hang 23 = .ok (.aload_n 0, 1) := by decide +kernel
theorem dX3_hang_24 : decode cX3_hang 24 = .ok (.getfield 25, 3) := by decide +kernel
theorem dX3_hang_27 : decode cX3_hang 27 = .ok (.iconst 1, 1) := by decide +kernel
theorem dX3_hang_28 : decode cX3_hang 28 = .ok (.isub, 1) := by decide +kernel
theorem dX3_hang_29 : decode cX3_hang 29 = .ok (.ireturn, 1) := by decide +kernel
theorem dX3_draft_0 : decode cX3_draft 0 = .ok (.aload_n 0, 1) := by decide +kernel
theorem dX3_draft_1 : decode cX3_draft 1 = .ok (.aload_n 0, 1) := by decide +kernel
theorem dX3_draft_2 : decode cX3_draft 2 = .ok (.getfield 25, 3) := by decide +kernel
theorem dX3_draft_5 : decode cX3_draft 5 = .ok (.invokevirtual 39, 3) := by decide +kernel
theorem dX3_draft_8 : decode cX3_draft 8 = .ok (.astore 7, 2) := by decide +kernel
theorem dX3_draft_10 : decode cX3_draft 10 = .ok (.aload 7, 2) := by decide +kernel
theorem dX3_draft_12 : decode cX3_draft 12 = .ok (.invokevirtual 66, 3) := by decide +kernel
theorem dX3_draft_15 : decode cX3_draft 15 = .ok (.aload 7, 2) := by decide +kernel
theorem dX3_draft_17 : decode cX3_draft 17 = .ok (.iload_n 1, 1) := by decide +kernel
theorem dX3_draft_18 : decode cX3_draft 18 = .ok (.putfield 69, 3) := by decide +kernel
theorem dX3_draft_21 : decode cX3_draft 21 = .ok (.aload 7, 2) := by decide +kernel
theorem dX3_draft_23 : decode cX3_draft 23 = .ok (.iload_n 2, 1) := by decide +kernel
theorem dX3_draft_24 : decode cX3_draft 24 = .ok (.putfield 72, 3) := by decide +kernel
theorem dX3_draft_27 : decode cX3_draft 27 = .ok (.aload 7, 2) := by decide +kernel
theorem dX3_draft_29 : decode cX3_draft 29 = .ok (.iload_n 3, 1) := by decide +kernel
theorem dX3_draft_30 : decode cX3_draft 30 = .ok (.putfield 91, 3) := by decide +kernel
theorem dX3_draft_33 : decode cX3_draft 33 = .ok (.aload 7, 2) := by decide +kernel
theorem dX3_draft_35 : decode cX3_draft 35 = .ok (.iload 4, 2) := by decide +kernel
theorem dX3_draft_37 : decode cX3_draft 37 = .ok (.putfield 94, 3) := by decide +kernel
theorem dX3_draft_40 : decode cX3_draft 40 = .ok (.aload 7, 2) := by decide +kernel
theorem dX3_draft_42 : decode cX3_draft 42 = .ok (.iload 5, 2) := by decide +kernel
theorem dX3_draft_44 : decode cX3_draft 44 = .ok (.putfield 97, 3) := by decide +kernel
theorem dX3_draft_47 : decode cX3_draft 47 = .ok (.aload 7, 2) := by decide +kernel
theorem dX3_draft_49 : decode cX3_draft 49 = .ok (.iload 6, 2) := by decide +kernel
theorem dX3_draft_51 : decode cX3_draft 51 = .ok (.putfield 75, 3) := by decide +kernel
theorem dX3_draft_54 : decode cX3_draft 54 = .ok (.aload 7, 2) := by decide +kernel
theorem dX3_draft_56 : decode cX3_draft 56 = .ok (.aload_n 0, 1) := by decide +kernel
theorem dX3_draft_57 : decode cX3_draft 57 = .ok (.iload_n 1, 1) := by decide +kernel
theorem dX3_draft_58 : decode cX3_draft 58 = .ok (.invokevirtual 39, 3) := by decide +kernel
theorem dX3_draft_61 : decode cX3_draft 61 = .ok (.invokestatic 100, 3) := by decide +kernel
theorem dX3_draft_64 : decode cX3_draft 64 = .ok (.return_, 1) := by decide +kernel
theorem dX3_layOut_0 : decode cX3_layOut 0 = .ok (.aload_n 0, 1) := by decide +kernel
theorem dX3_layOut_1 : decode cX3_layOut 1 = .ok (.getfield 72, 3) := by decide +kernel
theorem dX3_layOut_4 : decode cX3_layOut 4 = .ok (.iconst 1, 1) := by decide +kernel
theorem dX3_layOut_5 : decode cX3_layOut 5 = .ok (.iand, 1) := by decide +kernel
theorem dX3_layOut_6 : decode cX3_layOut 6 = .ok (.ifCond .ne 7, 3) := by decide +kernel
theorem dX3_layOut_9 : decode cX3_layOut 9 = .ok (.iconst 1, 1) := by decide +kernel
theorem dX3_layOut_10 : decode cX3_layOut 10 = .ok (.goto 4, 3) := by decide +kernel
theorem dX3_layOut_13 : decode cX3_layOut 13 = .ok (.iconst 0, 1) := by decide +kernel
theorem dX3_layOut_14 : decode cX3_layOut 14 = .ok (.istore_n 2, 1) := by decide +kernel
theorem dX3_layOut_15 : decode cX3_layOut 15 = .ok (.aload_n 0, 1) := by decide +kernel
theorem dX3_layOut_16 : decode cX3_layOut 16 = .ok (.iload_n 2, 1) := by decide +kernel
theorem dX3_layOut_17 : decode cX3_layOut 17 = .ok (.ifCond .eq 10, 3) := by decide +kernel
theorem dX3_layOut_20 : decode cX3_layOut 20 = .ok (.aload_n 0, 1) := by decide +kernel
theorem dX3_layOut_21 : decode cX3_layOut 21 = .ok (.getfield 94, 3) := by decide +kernel
theorem dX3_layOut_24 : decode cX3_layOut 24 = .ok (.goto 7, 3) := by decide +kernel
theorem dX3_layOut_27 : decode cX3_layOut 27 = .ok (.aload_n 0, 1) := by decide +kernel
theorem dX3_layOut_28 : decode cX3_layOut 28 = .ok (.getfield 97, 3) := by decide +kernel
theorem dX3_layOut_31 : decode cX3_layOut 31 = .ok (.putfield 50, 3) := by decide +kernel
theorem dX3_layOut_34 : decode cX3_layOut 34 = .ok (.aload_n 0, 1) := by decide +kernel
theorem dX3_layOut_35 : decode cX3_layOut 35 = .ok (.iload_n 2, 1) := by decide +kernel
theorem dX3_layOut_36 : decode cX3_layOut 36 = .ok (.ifCond .eq 10, 3) := by decide +kernel
theorem dX3_layOut_39 : decode cX3_layOut 39 = .ok (.aload_n 0, 1) := by decide +kernel
theorem dX3_layOut_40 : decode cX3_layOut 40 = .ok (.getfield 97, 3) := by decide +kernel
theorem dX3_layOut_43 : decode cX3_layOut 43 = .ok (.goto 7, 3) := by decide +kernel
theorem dX3_layOut_46 : decode cX3_layOut 46 = .ok (.aload_n 0, 1) := by decide +kernel
theorem dX3_layOut_47 : decode cX3_layOut 47 = .ok (.getfield 94, 3) := by decide +kernel
theorem dX3_layOut_50 : decode cX3_layOut 50 = .ok (.putfield 56, 3) := by decide +kernel
theorem dX3_layOut_53 : decode cX3_layOut 53 = .ok (.aload_n 0, 1) := by decide +kernel
theorem dX3_layOut_54 : decode cX3_layOut 54 = .ok (.aload_n 1, 1) := by decide +kernel
theorem dX3_layOut_55 : decode cX3_layOut 55 = .ok (.getfield 47, 3) := by decide +kernel
theorem dX3_layOut_58 : decode cX3_layOut 58 = .ok (.iload_n 2, 1) := by decide +kernel
theorem dX3_layOut_59 : decode cX3_layOut 59 = .ok (.ifCond .eq 10, 3) := by decide +kernel
theorem dX3_layOut_62 : decode cX3_layOut 62 = .ok (.aload_n 0, 1) := by decide +kernel
theorem dX3_layOut_63 : decode cX3_layOut 63 = .ok (.getfield 91, 3) := by decide +kernel
theorem dX3_layOut_66 : decode cX3_layOut 66 = .ok (.goto 23, 3) := by decide +kernel
theorem dX3_layOut_69 : decode cX3_layOut 69 = .ok (.aload_n 0, 1) := by decide +kernel
theorem dX3_layOut_70 : decode cX3_layOut 70 = .ok (.getfield 72, 3) := by decide +kernel
theorem dX3_layOut_73 : decode cX3_layOut 73 = .ok (.iconst 1, 1) := by decide +kernel
theorem dX3_layOut_74 : decode cX3_layOut 74 = .ok (.if_icmp .ne 10, 3) := by decide +kernel
theorem dX3_layOut_77 : decode cX3_layOut 77 = .ok (.aload_n 1, 1) := by decide +kernel
theorem dX3_layOut_78 : decode cX3_layOut 78 = .ok (.getfield 50, 3) := by decide +kernel
theorem dX3_layOut_81 : decode cX3_layOut 81 = .ok (.goto 8, 3) := by decide +kernel
theorem dX3_layOut_84 : decode cX3_layOut 84 = .ok (.aload_n 0, 1) := by decide +kernel
theorem dX3_layOut_85 : decode cX3_layOut 85 = .ok (.getfield 97, 3) := by decide +kernel
theorem dX3_layOut_88 : decode cX3_layOut 88 = .ok (.ineg, 1) := by decide +kernel
theorem dX3_layOut_89 : decode cX3_layOut 89 = .ok (.iadd, 1) := by decide +kernel
theorem dX3_layOut_90 : decode cX3_layOut 90 = .ok (.putfield 47, 3) := by decide +kernel
theorem dX3_layOut_93 : decode cX3_layOut 93 = .ok (.aload_n 0, 1) := by decide +kernel
theorem dX3_layOut_94 : decode cX3_layOut 94 = .ok (.aload_n 1, 1) := by decide +kernel
theorem dX3_layOut_95 : decode cX3_layOut 95 = .ok (.getfield 53, 3) := by decide +kernel
theorem dX3_layOut_98 : decode cX3_layOut 98 = .ok (.iload_n 2, 1) := by decide +kernel
theorem dX3_layOut_99 : decode cX3_layOut 99 = .ok (.ifCond .ne 10, 3) := by decide +kernel
theorem dX3_layOut_102 : decode cX3_layOut 102 = .ok (.aload_n 0, 1) := by decide +kernel
theorem dX3_layOut_103 : decode cX3_layOut 103 = .ok (.getfield 91, 3) := by decide +kernel
theorem dX3_layOut_106 : decode cX3_layOut 106 = .ok (.goto 23, 3) := by decide +kernel
theorem dX3_layOut_109 : decode cX3_layOut 109 = .ok (.aload_n 0, 1) := by decide +kernel
theorem dX3_layOut_110 : decode cX3_layOut 110 = .ok (.getfield 72, 3) := by decide +kernel
theorem dX3_layOut_113 : decode cX3_layOut 113 = .ok (.iconst 2, 1) := by decide +kernel
theorem dX3_layOut_114 : decode cX3_layOut 114 = .ok (.if_icmp .ne 10, 3) := by decide +kernel
theorem dX3_layOut_117 : decode cX3_layOut 117 = .ok (.aload_n 1, 1) := by decide +kernel
theorem dX3_layOut_118 : decode cX3_layOut 118 = .ok (.getfield 56, 3) := by decide +kernel
theorem dX3_layOut_121 : decode cX3_layOut 121 = .ok (.goto 8, 3) := by decide +kernel
theorem dX3_layOut_124 : decode cX3_layOut 124 = .ok (.aload_n 0, 1) := by decide +kernel
theorem dX3_layOut_125 : decode cX3_layOut 125 = .ok (.getfield 97, 3) := by decide +kernel
theorem dX3_layOut_128 : decode cX3_layOut 128 = .ok (.ineg, 1) := by decide +kernel
theorem dX3_layOut_129 : decode cX3_layOut 129 = .ok (.iadd, 1) := by decide +kernel
theorem dX3_layOut_130 : decode cX3_layOut 130 = .ok (.putfield 53, 3) := by decide +kernel
theorem dX3_layOut_133 : decode cX3_layOut 133 = .ok (.return_, 1) := by decide +kernel
theorem dX3_layOutAll_0 : decode cX3_layOutAll 0 = .ok (.iconst 1, 1) := by decide +kernel
theorem dX3_layOutAll_1 : decode cX3_layOutAll 1 = .ok (.istore_n 1, 1) := by decide +kernel
theorem dX3_layOutAll_2 : decode cX3_layOutAll 2 = .ok (.iload_n 1, 1) := by decide +kernel
theorem dX3_layOutAll_3 : decode cX3_layOutAll 3 = .ok (.aload_n 0, 1) := by decide +kernel
theorem dX3_layOutAll_4 : decode cX3_layOutAll 4 = .ok (.getfield 25, 3) := by decide +kernel
theorem dX3_layOutAll_7 : decode cX3_layOutAll 7 = .ok (.if_icmp .ge 27, 3) := by decide +kernel
theorem dX3_layOutAll_10 : decode cX3_layOutAll 10 = .ok (.aload_n 0, 1) := by decide +kernel
theorem dX3_layOutAll_11 : decode cX3_layOutAll 11 = .ok (.iload_n 1, 1) := by decide +kernel
theorem dX3_layOutAll_12 : decode cX3_layOutAll 12 = .ok (.invokevirtual 39, 3) := by decide +kernel
theorem dX3_layOutAll_15 : decode cX3_layOutAll 15 = .ok (.astore_n 2, 1) := by decide +kernel
theorem dX3_layOutAll_16 : decode cX3_layOutAll 16 = .ok (.aload_n 2, 1) := by decide +kernel
theorem dX3_layOutAll_17 : decode cX3_layOutAll 17 = .ok (.aload_n 0, 1) := by decide +kernel
theorem dX3_layOutAll_18 : decode cX3_layOutAll 18 = .ok (.aload_n 2, 1) := by decide +kernel
theorem dX3_layOutAll_19 : decode cX3_layOutAll 19 = .ok (.getfield 69, 3) := by decide +kernel
theorem dX3_layOutAll_22 : decode cX3_layOutAll 22 = .ok (.invokevirtual 39, 3) := by decide +kernel
theorem dX3_layOutAll_25 : decode cX3_layOutAll 25 = .ok (.invokestatic 100, 3) := by decide +kernel
theorem dX3_layOutAll_28 : decode cX3_layOutAll 28 = .ok (.iinc 1 1, 3) := by decide +kernel
theorem dX3_layOutAll_31 : decode cX3_layOutAll 31 = .ok (.goto (-29), 3) := by decide +kernel
theorem dX3_layOutAll_34 : decode cX3_layOutAll 34 = .ok (.return_, 1) := by decide +kernel
theorem dX3_fits_0 : decode cX3_fits 0 = .ok (.aload_n 0, 1) := by decide +kernel
theorem dX3_fits_1 : decode cX3_fits 1 = .ok (.iload_n 1, 1) := by decide +kernel
theorem dX3_fits_2 : decode cX3_fits 2 = .ok (.invokevirtual 39, 3) := by decide +kernel
theorem dX3_fits_5 : decode cX3_fits 5 = .ok (.astore_n 2, 1) := by decide +kernel
theorem dX3_fits_6 : decode cX3_fits 6 = .ok (.aload_n 2, 1) := by decide +kernel
theorem dX3_fits_7 : decode cX3_fits 7 = .ok (.getfield 47, 3) := by decide +kernel
theorem dX3_fits_10 : decode cX3_fits 10 = .ok (.ifCond .lt 42, 3) := by decide +kernel
theorem dX3_fits_13 : decode cX3_fits 13 = .ok (.aload_n 2, 1) := by decide +kernel
theorem dX3_fits_14 : decode cX3_fits 14 = .ok (.getfield 53, 3) := by decide +kernel
theorem dX3_fits_17 : decode cX3_fits 17 = .ok (.ifCond .lt 35, 3) := by decide +kernel
theorem dX3_fits_20 : decode cX3_fits 20 = .ok (.aload_n 2, 1) := by decide +kernel
theorem dX3_fits_21 : decode cX3_fits 21 = .ok (.getfield 47, 3) := by decide +kernel
theorem dX3_fits_24 : decode cX3_fits 24 = .ok (.aload_n 2, 1) := by decide +kernel
theorem dX3_fits_25 : decode cX3_fits 25 = .ok (.getfield 50, 3) := by decide +kernel
theorem dX3_fits_28 : decode cX3_fits 28 = .ok (.iadd, 1) := by decide +kernel
theorem dX3_fits_29 : decode cX3_fits 29 = .ok (.aload_n 0, 1) := by decide +kernel
theorem dX3_fits_30 : decode cX3_fits 30 = .ok (.getfield 18, 3) := by decide +kernel
theorem dX3_fits_33 : decode cX3_fits 33 = .ok (.if_icmp .gt 19, 3) := by decide +kernel
theorem dX3_fits_36 : decode cX3_fits 36 = .ok (.aload_n 2, 1) := by decide +kernel
theorem dX3_fits_37 : decode cX3_fits 37 = .ok (.getfield 53, 3) := by decide +kernel
theorem dX3_fits_40 : decode cX3_fits 40 = .ok (.aload_n 2, 1) := by decide +kernel
theorem dX3_fits_41 : decode cX3_fits 41 = .ok (.getfield 56, 3) := by decide +kernel
theorem dX3_fits_44 : decode cX3_fits 44 = .ok (.iadd, 1) := by decide +kernel
theorem dX3_fits_45 : decode cX3_fits 45 = .ok (.aload_n 0, 1) := by decide +kernel
theorem dX3_fits_46 : decode cX3_fits 46 = .ok (.getfield 22, 3) := by decide +kernel
theorem dX3_fits_49 : decode cX3_fits 49 = .ok (.if_icmp .le 5, 3) := by decide +kernel
theorem dX3_fits_52 : decode cX3_fits 52 = .ok (.iconst 0, 1) := by decide +kernel
theorem dX3_fits_53 : decode cX3_fits 53 = .ok (.ireturn, 1) := by decide +kernel
theorem dX3_fits_54 : decode cX3_fits 54 = .ok (.iload_n 1, 1) := by decide +kernel
theorem dX3_fits_55 : decode cX3_fits 55 = .ok (.ifCond .le 32, 3) := by decide +kernel
theorem dX3_fits_58 : decode cX3_fits 58 = .ok (.aload_n 2, 1) := by decide +kernel
theorem dX3_fits_59 : decode cX3_fits 59 = .ok (.getfield 91, 3) := by decide +kernel
theorem dX3_fits_62 : decode cX3_fits 62 = .ok (.aload_n 2, 1) := by decide +kernel
theorem dX3_fits_63 : decode cX3_fits 63 = .ok (.getfield 94, 3) := by decide +kernel
theorem dX3_fits_66 : decode cX3_fits 66 = .ok (.iadd, 1) := by decide +kernel
theorem dX3_fits_67 : decode cX3_fits 67 = .ok (.aload_n 0, 1) := by decide +kernel
theorem dX3_fits_68 : decode cX3_fits 68 = .ok (.aload_n 2, 1) := by decide +kernel
theorem dX3_fits_69 : decode cX3_fits 69 = .ok (.getfield 69, 3) := by decide +kernel
theorem dX3_fits_72 : decode cX3_fits 72 = .ok (.invokevirtual 39, 3) := by decide +kernel
theorem dX3_fits_75 : decode cX3_fits 75 = .ok (.aload_n 2, 1) := by decide +kernel
theorem dX3_fits_76 : decode cX3_fits 76 = .ok (.getfield 72, 3) := by decide +kernel
theorem dX3_fits_79 : decode cX3_fits 79 = .ok (.invokevirtual 104, 3) := by decide +kernel
theorem dX3_fits_82 : decode cX3_fits 82 = .ok (.if_icmp .le 5, 3) := by decide +kernel
theorem dX3_fits_85 : decode cX3_fits 85 = .ok (.iconst 0, 1) := by decide +kernel
theorem dX3_fits_86 : decode cX3_fits 86 = .ok (.ireturn, 1) := by decide +kernel
theorem dX3_fits_87 : decode cX3_fits 87 = .ok (.iconst 0, 1) := by decide +kernel
theorem dX3_fits_88 : decode cX3_fits 88 = .ok (.istore_n 3, 1) := by decide +kernel
theorem dX3_fits_89 : decode cX3_fits 89 = .ok (.iload_n 3, 1) := by decide +kernel
theorem dX3_fits_90 : decode cX3_fits 90 = .ok (.iload_n 1, 1) := by decide +kernel
theorem dX3_fits_91 : decode cX3_fits 91 = .ok (.if_icmp .ge 23, 3) := by decide +kernel
theorem dX3_fits_94 : decode cX3_fits 94 = .ok (.aload_n 2, 1) := by decide +kernel
theorem dX3_fits_95 : decode cX3_fits 95 = .ok (.aload_n 0, 1) := by decide +kernel
theorem dX3_fits_96 : decode cX3_fits 96 = .ok (.iload_n 3, 1) := by decide +kernel
theorem dX3_fits_97 : decode cX3_fits 97 = .ok (.invokevirtual 39, 3) := by decide +kernel
theorem dX3_fits_100 : decode cX3_fits 100 = .ok (.invokevirtual 108, 3) := by decide +kernel
theorem dX3_fits_103 : decode cX3_fits 103 = .ok (.ifCond .eq 5, 3) := by decide +kernel
theorem dX3_fits_106 : decode cX3_fits 106 = .ok (.iconst 0, 1) := by decide +kernel
theorem dX3_fits_107 : decode cX3_fits 107 = .ok (.ireturn, 1) := by decide +kernel
theorem dX3_fits_108 : decode cX3_fits 108 = .ok (.iinc 3 1, 3) := by decide +kernel
theorem dX3_fits_111 : decode cX3_fits 111 = .ok (.goto (-22), 3) := by decide +kernel
theorem dX3_fits_114 : decode cX3_fits 114 = .ok (.iconst 1, 1) := by decide +kernel
theorem dX3_fits_115 : decode cX3_fits 115 = .ok (.ireturn, 1) := by decide +kernel
theorem dX3_isValid_0 : decode cX3_isValid 0 = .ok (.iconst 0, 1) := by decide +kernel
theorem dX3_isValid_1 : decode cX3_isValid 1 = .ok (.istore_n 1, 1) := by decide +kernel
theorem dX3_isValid_2 : decode cX3_isValid 2 = .ok (.iload_n 1, 1) := by decide +kernel
theorem dX3_isValid_3 : decode cX3_isValid 3 = .ok (.aload_n 0, 1) := by decide +kernel
theorem dX3_isValid_4 : decode cX3_isValid 4 = .ok (.getfield 25, 3) := by decide +kernel
theorem dX3_isValid_7 : decode cX3_isValid 7 = .ok (.if_icmp .ge 19, 3) := by decide +kernel
theorem dX3_isValid_10 : decode cX3_isValid 10 = .ok (.aload_n 0, 1) := by decide +kernel
theorem dX3_isValid_11 : decode cX3_isValid 11 = .ok (.iload_n 1, 1) := by decide +kernel
theorem dX3_isValid_12 : decode cX3_isValid 12 = .ok (.invokevirtual 88, 3) := by decide +kernel
theorem dX3_isValid_15 : decode cX3_isValid 15 = .ok (.ifCond .ne 5, 3) := by decide +kernel
theorem dX3_isValid_18 : decode cX3_isValid 18 = .ok (.iconst 0, 1) := by decide +kernel
theorem dX3_isValid_19 : decode cX3_isValid 19 = .ok (.ireturn, 1) := by decide +kernel
theorem dX3_isValid_20 : decode cX3_isValid 20 = .ok (.iinc 1 1, 3) := by decide +kernel
theorem dX3_isValid_23 : decode cX3_isValid 23 = .ok (.goto (-21), 3) := by decide +kernel
theorem dX3_isValid_26 : decode cX3_isValid 26 = .ok (.iconst 1, 1) := by decide +kernel
theorem dX3_isValid_27 : decode cX3_isValid 27 = .ok (.ireturn, 1) := by decide +kernel
theorem dX3_dropFault_0 : decode cX3_dropFault 0 = .ok (.aload_n 0, 1) := by decide +kernel
theorem dX3_dropFault_1 : decode cX3_dropFault 1 = .ok (.getfield 25, 3) := by decide +kernel
theorem dX3_dropFault_4 : decode cX3_dropFault 4 = .ok (.ifCond .ne 6, 3) := by decide +kernel
theorem dX3_dropFault_7 : decode cX3_dropFault 7 = .ok (.bipush (-2), 2) := by decide +kernel
theorem dX3_dropFault_9 : decode cX3_dropFault 9 = .ok (.ireturn, 1) := by decide +kernel
theorem dX3_dropFault_10 : decode cX3_dropFault 10 = .ok (.iconst 0, 1) := by decide +kernel
theorem dX3_dropFault_11 : decode cX3_dropFault 11 = .ok (.istore_n 1, 1) := by decide +kernel
theorem dX3_dropFault_12 : decode cX3_dropFault 12 = .ok (.iload_n 1, 1) := by decide +kernel
theorem dX3_dropFault_13 : decode cX3_dropFault 13 = .ok (.aload_n 0, 1) := by decide +kernel
theorem dX3_dropFault_14 : decode cX3_dropFault 14 = .ok (.getfield 25, 3) := by decide +kernel
theorem dX3_dropFault_17 : decode cX3_dropFault 17 = .ok (.if_icmp .ge 29, 3) := by decide +kernel
theorem dX3_dropFault_20 : decode cX3_dropFault 20 = .ok (.aload_n 0, 1) := by decide +kernel
theorem dX3_dropFault_21 : decode cX3_dropFault 21 = .ok (.iload_n 1, 1) := by decide +kernel
theorem dX3_dropFault_22 : decode cX3_dropFault 22 = .ok (.invokevirtual 39, 3) := by decide +kernel
theorem dX3_dropFault_25 : decode cX3_dropFault 25 = .ok (.getfield 112, 3) := by decide +kernel
theorem dX3_dropFault_28 : decode cX3_dropFault 28 = .ok (.aload_n 0, 1) := by decide +kernel
theorem dX3_dropFault_29 : decode cX3_dropFault 29 = .ok (.getfield 25, 3) := by decide +kernel
theorem dX3_dropFault_32 : decode cX3_dropFault 32 = .ok (.iconst 1, 1) := by decide +kernel
theorem dX3_dropFault_33 : decode cX3_dropFault 33 = .ok (.isub, 1) := by decide +kernel
theorem dX3_dropFault_34 : decode cX3_dropFault 34 = .ok (.if_icmp .ne 6, 3) := by decide +kernel
theorem dX3_dropFault_37 : decode cX3_dropFault 37 = .ok (.bipush (-2), 2) := by decide +kernel
theorem dX3_dropFault_39 : decode cX3_dropFault 39 = .ok (.ireturn, 1) := by decide +kernel
theorem dX3_dropFault_40 : decode cX3_dropFault 40 = .ok (.iinc 1 1, 3) := by decide +kernel
theorem dX3_dropFault_43 : decode cX3_dropFault 43 = .ok (.goto (-31), 3) := by decide +kernel
theorem dX3_dropFault_46 : decode cX3_dropFault 46 = .ok (.iconst 0, 1) := by decide +kernel
theorem dX3_dropFault_47 : decode cX3_dropFault 47 = .ok (.ireturn, 1) := by decide +kernel
theorem dX3_dropLast_0 : decode cX3_dropLast 0 = .ok (.aload_n 0, 1) := by decide +kernel
theorem dX3_dropLast_1 : decode cX3_dropLast 1 = .ok (.dup, 1) := by decide +kernel
theorem dX3_dropLast_2 : decode cX3_dropLast 2 = .ok (.getfield 25, 3) := by decide +kernel
theorem dX3_dropLast_5 : decode cX3_dropLast 5 = .ok (.iconst 1, 1) := by decide +kernel
theorem dX3_dropLast_6 : decode cX3_dropLast 6 = .ok (.isub, 1) := by decide +kernel
theorem dX3_dropLast_7 : decode cX3_dropLast 7 = .ok (.putfield 25, 3) := by decide +kernel
theorem dX3_dropLast_10 : decode cX3_dropLast 10 = .ok (.aload_n 0, 1) := by decide +kernel
theorem dX3_dropLast_11 : decode cX3_dropLast 11 = .ok (.getfield 25, 3) := by decide +kernel
theorem dX3_dropLast_14 : decode cX3_dropLast 14 = .ok (.ireturn, 1) := by decide +kernel
theorem dX3_turnFold_0 : decode cX3_turnFold 0 = .ok (.aload_n 0, 1) := by decide +kernel
theorem dX3_turnFold_1 : decode cX3_turnFold 1 = .ok (.iload_n 1, 1) := by decide +kernel
theorem dX3_turnFold_2 : decode cX3_turnFold 2 = .ok (.invokevirtual 39, 3) := by decide +kernel
theorem dX3_turnFold_5 : decode cX3_turnFold 5 = .ok (.astore_n 3, 1) := by decide +kernel
theorem dX3_turnFold_6 : decode cX3_turnFold 6 = .ok (.aload_n 3, 1) := by decide +kernel
theorem dX3_turnFold_7 : decode cX3_turnFold 7 = .ok (.getfield 75, 3) := by decide +kernel
theorem dX3_turnFold_10 : decode cX3_turnFold 10 = .ok (.istore 4, 2) := by decide +kernel
theorem dX3_turnFold_12 : decode cX3_turnFold 12 = .ok (.aload_n 3, 1) := by decide +kernel
theorem dX3_turnFold_13 : decode cX3_turnFold 13 = .ok (.iload_n 2, 1) := by decide +kernel
theorem dX3_turnFold_14 : decode cX3_turnFold 14 = .ok (.putfield 75, 3) := by decide +kernel
theorem dX3_turnFold_17 : decode cX3_turnFold 17 = .ok (.iload 4, 2) := by decide +kernel
theorem dX3_turnFold_19 : decode cX3_turnFold 19 = .ok (.ireturn, 1) := by decide +kernel
theorem dX3_sizeFault_0 : decode cX3_sizeFault 0 = .ok (.aload_n 0, 1) := by decide +kernel
theorem dX3_sizeFault_1 : decode cX3_sizeFault 1 = .ok (.iload_n 1, 1) := by decide +kernel
theorem dX3_sizeFault_2 : decode cX3_sizeFault 2 = .ok (.invokevirtual 115, 3) := by decide +kernel
theorem dX3_sizeFault_5 : decode cX3_sizeFault 5 = .ok (.ifCond .eq 12, 3) := by decide +kernel
theorem dX3_sizeFault_8 : decode cX3_sizeFault 8 = .ok (.iload_n 2, 1) := by decide +kernel
theorem dX3_sizeFault_9 : decode cX3_sizeFault 9 = .ok (.ifCond .lt 8, 3) := by decide +kernel
theorem dX3_sizeFault_12 : decode cX3_sizeFault 12 = .ok (.iload_n 2, 1) := by decide +kernel
theorem dX3_sizeFault_13 : decode cX3_sizeFault 13 = .ok (.iconst 2, 1) := by decide +kernel
theorem dX3_sizeFault_14 : decode cX3_sizeFault 14 = .ok (.if_icmp .le 5, 3) := by decide +kernel
theorem dX3_sizeFault_17 : decode cX3_sizeFault 17 = .ok (.iconst (-1), 1) := by decide +kernel
theorem dX3_sizeFault_18 : decode cX3_sizeFault 18 = .ok (.ireturn, 1) := by decide +kernel
theorem dX3_sizeFault_19 : decode cX3_sizeFault 19 = .ok (.iload_n 2, 1) := by decide +kernel
theorem dX3_sizeFault_20 : decode cX3_sizeFault 20 = .ok (.ifCond .ne 13, 3) := by decide +kernel
theorem dX3_sizeFault_23 : decode cX3_sizeFault 23 = .ok (.iload_n 3, 1) := by decide +kernel
theorem dX3_sizeFault_24 : decode cX3_sizeFault 24 = .ok (.invokestatic 59, 3) := by decide +kernel
theorem dX3_sizeFault_27 : decode cX3_sizeFault 27 = .ok (.ifCond .eq 13, 3) := by decide +kernel
theorem dX3_sizeFault_30 : decode cX3_sizeFault 30 = .ok (.goto 12, 3) := by decide +kernel
theorem dX3_sizeFault_33 : decode cX3_sizeFault 33 = .ok (.iload_n 3, 1) := by decide +kernel
theorem dX3_sizeFault_34 : decode cX3_sizeFault 34 = .ok (.invokestatic 63, 3) := by decide +kernel
theorem dX3_sizeFault_37 : decode cX3_sizeFault 37 = .ok (.ifCond .ne 5, 3) := by decide +kernel
theorem dX3_sizeFault_40 : decode cX3_sizeFault 40 = .ok (.iconst (-1), 1) := by decide +kernel
theorem dX3_sizeFault_41 : decode cX3_sizeFault 41 = .ok (.ireturn, 1) := by decide +kernel
theorem dX3_sizeFault_42 : decode cX3_sizeFault 42 = .ok (.aload_n 0, 1) := by decide +kernel
theorem dX3_sizeFault_43 : decode cX3_sizeFault 43 = .ok (.iload_n 1, 1) := by decide +kernel
theorem dX3_sizeFault_44 : decode cX3_sizeFault 44 = .ok (.iload_n 2, 1) := by decide +kernel
theorem dX3_sizeFault_45 : decode cX3_sizeFault 45 = .ok (.iload_n 3, 1) := by decide +kernel
theorem dX3_sizeFault_46 : decode cX3_sizeFault 46 = .ok (.invokevirtual 118, 3) := by decide +kernel
theorem dX3_sizeFault_49 : decode cX3_sizeFault 49 = .ok (.istore 4, 2) := by decide +kernel
theorem dX3_sizeFault_51 : decode cX3_sizeFault 51 = .ok (.aload_n 0, 1) := by decide +kernel
theorem dX3_sizeFault_52 : decode cX3_sizeFault 52 = .ok (.invokevirtual 122, 3) := by decide +kernel
theorem dX3_sizeFault_55 : decode cX3_sizeFault 55 = .ok (.istore 5, 2) := by decide +kernel
theorem dX3_sizeFault_57 : decode cX3_sizeFault 57 = .ok (.aload_n 0, 1) := by decide +kernel
theorem dX3_sizeFault_58 : decode cX3_sizeFault 58 = .ok (.iload_n 1, 1) := by decide +kernel
theorem dX3_sizeFault_59 : decode cX3_sizeFault 59 = .ok (.iload_n 2, 1) := by decide +kernel
theorem dX3_sizeFault_60 : decode cX3_sizeFault 60 = .ok (.iload 4, 2) := by decide +kernel
theorem dX3_sizeFault_62 : decode cX3_sizeFault 62 = .ok (.invokevirtual 118, 3) := by decide +kernel
theorem dX3_sizeFault_65 : decode cX3_sizeFault 65 = .ok (.pop, 1) := by decide +kernel
theorem dX3_sizeFault_66 : decode cX3_sizeFault 66 = .ok (.iload 5, 2) := by decide +kernel
theorem dX3_sizeFault_68 : decode cX3_sizeFault 68 = .ok (.ifCond .eq 7, 3) := by decide +kernel
theorem dX3_sizeFault_71 : decode cX3_sizeFault 71 = .ok (.iconst 0, 1) := by decide +kernel
theorem dX3_sizeFault_72 : decode cX3_sizeFault 72 = .ok (.goto 5, 3) := by decide +kernel
theorem dX3_sizeFault_75 : decode cX3_sizeFault 75 = .ok (.bipush (-4), 2) := by decide +kernel
theorem dX3_sizeFault_77 : decode cX3_sizeFault 77 = .ok (.ireturn, 1) := by decide +kernel
theorem dX3_changeSize_0 : decode cX3_changeSize 0 = .ok (.aload_n 0, 1) := by decide +kernel
theorem dX3_changeSize_1 : decode cX3_changeSize 1 = .ok (.iload_n 1, 1) := by decide +kernel
theorem dX3_changeSize_2 : decode cX3_changeSize 2 = .ok (.invokevirtual 39, 3) := by decide +kernel
theorem dX3_changeSize_5 : decode cX3_changeSize 5 = .ok (.astore 4, 2) := by decide +kernel
theorem dX3_changeSize_7 : decode cX3_changeSize 7 = .ok (.iload_n 2, 1) := by decide +kernel
theorem dX3_changeSize_8 : decode cX3_changeSize 8 = .ok (.ifCond .ne 11, 3) := by decide +kernel
theorem dX3_changeSize_11 : decode cX3_changeSize 11 = .ok (.aload 4, 2) := by decide +kernel
theorem dX3_changeSize_13 : decode cX3_changeSize 13 = .ok (.getfield 91, 3) := by decide +kernel
theorem dX3_changeSize_16 : decode cX3_changeSize 16 = .ok (.goto 21, 3) := by decide +kernel
theorem dX3_changeSize_19 : decode cX3_changeSize 19 = .ok (.iload_n 2, 1) := by decide +kernel
theorem dX3_changeSize_20 : decode cX3_changeSize 20 = .ok (.iconst 1, 1) := by decide +kernel
theorem dX3_changeSize_21 : decode cX3_changeSize 21 = .ok (.if_icmp .ne 11, 3) := by decide +kernel
theorem dX3_changeSize_24 : decode cX3_changeSize 24 = .ok (.aload 4, 2) := by decide +kernel
theorem dX3_changeSize_26 : decode cX3_changeSize 26 = .ok (.getfield 94, 3) := by decide +kernel
theorem dX3_changeSize_29 : decode cX3_changeSize 29 = .ok (.goto 8, 3) := by decide +kernel
theorem dX3_changeSize_32 : decode cX3_changeSize 32 = .ok (.aload 4, 2) := by decide +kernel
theorem dX3_changeSize_34 : decode cX3_changeSize 34 = .ok (.getfield 97, 3) := by decide +kernel
theorem dX3_changeSize_37 : decode cX3_changeSize 37 = .ok (.istore 5, 2) := by decide +kernel
theorem dX3_changeSize_39 : decode cX3_changeSize 39 = .ok (.iload_n 2, 1) := by decide +kernel
theorem dX3_changeSize_40 : decode cX3_changeSize 40 = .ok (.ifCond .ne 12, 3) := by decide +kernel
theorem dX3_changeSize_43 : decode cX3_changeSize 43 = .ok (.aload 4, 2) := by decide +kernel
theorem dX3_changeSize_45 : decode cX3_changeSize 45 = .ok (.iload_n 3, 1) := by decide +kernel
theorem dX3_changeSize_46 : decode cX3_changeSize 46 = .ok (.putfield 91, 3) := by decide +kernel
theorem dX3_changeSize_49 : decode cX3_changeSize 49 = .ok (.goto 23, 3) := by decide +kernel
theorem dX3_changeSize_52 : decode cX3_changeSize 52 = .ok (.iload_n 2, 1) := by decide +kernel
theorem dX3_changeSize_53 : decode cX3_changeSize 53 = .ok (.iconst 1, 1) := by decide +kernel
theorem dX3_changeSize_54 : decode cX3_changeSize 54 = .ok (.if_icmp .ne 12, 3) := by decide +kernel
theorem dX3_changeSize_57 : decode cX3_changeSize 57 = .ok (.aload 4, 2) := by decide +kernel
theorem dX3_changeSize_59 : decode cX3_changeSize 59 = .ok (.iload_n 3, 1) := by decide +kernel
theorem dX3_changeSize_60 : decode cX3_changeSize 60 = .ok (.putfield 94, 3) := by decide +kernel
theorem dX3_changeSize_63 : decode cX3_changeSize 63 = .ok (.goto 9, 3) := by decide +kernel
theorem dX3_changeSize_66 : decode cX3_changeSize 66 = .ok (.aload 4, 2) := by decide +kernel
theorem dX3_changeSize_68 : decode cX3_changeSize 68 = .ok (.iload_n 3, 1) := by decide +kernel
theorem dX3_changeSize_69 : decode cX3_changeSize 69 = .ok (.putfield 97, 3) := by decide +kernel
theorem dX3_changeSize_72 : decode cX3_changeSize 72 = .ok (.aload_n 0, 1) := by decide +kernel
theorem dX3_changeSize_73 : decode cX3_changeSize 73 = .ok (.invokevirtual 126, 3) := by decide +kernel
theorem dX3_changeSize_76 : decode cX3_changeSize 76 = .ok (.iload 5, 2) := by decide +kernel
theorem dX3_changeSize_78 : decode cX3_changeSize 78 = .ok (.ireturn, 1) := by decide +kernel
theorem dX3_flapFault_0 : decode cX3_flapFault 0 = .ok (.aload_n 0, 1) := by decide +kernel
theorem dX3_flapFault_1 : decode cX3_flapFault 1 = .ok (.iload_n 2, 1) := by decide +kernel
theorem dX3_flapFault_2 : decode cX3_flapFault 2 = .ok (.invokevirtual 78, 3) := by decide +kernel
theorem dX3_flapFault_5 : decode cX3_flapFault 5 = .ok (.ifCond .eq 12, 3) := by decide +kernel
theorem dX3_flapFault_8 : decode cX3_flapFault 8 = .ok (.iload_n 2, 1) := by decide +kernel
theorem dX3_flapFault_9 : decode cX3_flapFault 9 = .ok (.iload_n 1, 1) := by decide +kernel
theorem dX3_flapFault_10 : decode cX3_flapFault 10 = .ok (.if_icmp .eq 7, 3) := by decide +kernel
theorem dX3_flapFault_13 : decode cX3_flapFault 13 = .ok (.iconst 1, 1) := by decide +kernel
theorem dX3_flapFault_14 : decode cX3_flapFault 14 = .ok (.goto 4, 3) := by decide +kernel
theorem dX3_flapFault_17 : decode cX3_flapFault 17 = .ok (.iconst 0, 1) := by decide +kernel
theorem dX3_flapFault_18 : decode cX3_flapFault 18 = .ok (.istore_n 3, 1) := by decide +kernel
theorem dX3_flapFault_19 : decode cX3_flapFault 19 = .ok (.aload_n 0, 1) := by decide +kernel
theorem dX3_flapFault_20 : decode cX3_flapFault 20 = .ok (.iload_n 1, 1) := by decide +kernel
theorem dX3_flapFault_21 : decode cX3_flapFault 21 = .ok (.invokevirtual 115, 3) := by decide +kernel
theorem dX3_flapFault_24 : decode cX3_flapFault 24 = .ok (.ifCond .eq 17, 3) := by decide +kernel
theorem dX3_flapFault_27 : decode cX3_flapFault 27 = .ok (.iload_n 2, 1) := by decide +kernel
theorem dX3_flapFault_28 : decode cX3_flapFault 28 = .ok (.bipush (-9), 2) := by decide +kernel
theorem dX3_flapFault_30 : decode cX3_flapFault 30 = .ok (.if_icmp .eq 7, 3) := by decide +kernel
theorem dX3_flapFault_33 : decode cX3_flapFault 33 = .ok (.iload_n 3, 1) := by decide +kernel
theorem dX3_flapFault_34 : decode cX3_flapFault 34 = .ok (.ifCond .eq 7, 3) := by decide +kernel
theorem dX3_flapFault_37 : decode cX3_flapFault 37 = .ok (.iconst 0, 1) := by decide +kernel
theorem dX3_flapFault_38 : decode cX3_flapFault 38 = .ok (.goto 4, 3) := by decide +kernel
theorem dX3_flapFault_41 : decode cX3_flapFault 41 = .ok (.iconst (-1), 1) := by decide +kernel
theorem dX3_flapFault_42 : decode cX3_flapFault 42 = .ok (.ireturn, 1) := by decide +kernel
theorem dX3_changeTarget_0 : decode cX3_changeTarget 0 = .ok (.aload_n 0, 1) := by decide +kernel
theorem dX3_changeTarget_1 : decode cX3_changeTarget 1 = .ok (.iload_n 1, 1) := by decide +kernel
theorem dX3_changeTarget_2 : decode cX3_changeTarget 2 = .ok (.invokevirtual 39, 3) := by decide +kernel
theorem dX3_changeTarget_5 : decode cX3_changeTarget 5 = .ok (.astore_n 3, 1) := by decide +kernel
theorem dX3_changeTarget_6 : decode cX3_changeTarget 6 = .ok (.aload_n 3, 1) := by decide +kernel
theorem dX3_changeTarget_7 : decode cX3_changeTarget 7 = .ok (.getfield 112, 3) := by decide +kernel
theorem dX3_changeTarget_10 : decode cX3_changeTarget 10 = .ok (.istore 4, 2) := by decide +kernel
theorem dX3_changeTarget_12 : decode cX3_changeTarget 12 = .ok (.aload_n 3, 1) := by decide +kernel
theorem dX3_changeTarget_13 : decode cX3_changeTarget 13 = .ok (.iload_n 2, 1) := by decide +kernel
theorem dX3_changeTarget_14 : decode cX3_changeTarget 14 = .ok (.putfield 112, 3) := by decide +kernel
theorem dX3_changeTarget_17 : decode cX3_changeTarget 17 = .ok (.iload 4, 2) := by decide +kernel
theorem dX3_changeTarget_19 : decode cX3_changeTarget 19 = .ok (.ireturn, 1) := by decide +kernel
theorem dX3_imageFault_0 : decode cX3_imageFault 0 = .ok (.iload_n 1, 1) := by decide +kernel
theorem dX3_imageFault_1 : decode cX3_imageFault 1 = .ok (.ifCond .lt 8, 3) := by decide +kernel
theorem dX3_imageFault_4 : decode cX3_imageFault 4 = .ok (.iload_n 1, 1) := by decide +kernel
theorem dX3_imageFault_5 : decode cX3_imageFault 5 = .ok (.iconst 4, 1) := by decide +kernel
theorem dX3_imageFault_6 : decode cX3_imageFault 6 = .ok (.if_icmp .lt 5, 3) := by decide +kernel
theorem dX3_imageFault_9 : decode cX3_imageFault 9 = .ok (.iconst (-1), 1) := by decide +kernel
theorem dX3_imageFault_10 : decode cX3_imageFault 10 = .ok (.ireturn, 1) := by decide +kernel
theorem dX3_imageFault_11 : decode cX3_imageFault 11 = .ok (.iload_n 2, 1) := by decide +kernel
theorem dX3_imageFault_12 : decode cX3_imageFault 12 = .ok (.iconst 1, 1) := by decide +kernel
theorem dX3_imageFault_13 : decode cX3_imageFault 13 = .ok (.if_icmp .lt 22, 3) := by decide +kernel
theorem dX3_imageFault_16 : decode cX3_imageFault 16 = .ok (.iload_n 2, 1) := by decide +kernel
theorem dX3_imageFault_17 : decode cX3_imageFault 17 = .ok (.sipush 200, 3) := by decide +kernel
theorem dX3_imageFault_20 : decode cX3_imageFault 20 = .ok (.if_icmp .gt 15, 3) := by decide +kernel
theorem dX3_imageFault_23 : decode cX3_imageFault 23 = .ok (.iload_n 3, 1) := by decide +kernel
theorem dX3_imageFault_24 : decode cX3_imageFault 24 = .ok (.iconst 1, 1) := by decide +kernel
theorem dX3_imageFault_25 : decode cX3_imageFault 25 = .ok (.if_icmp .lt 10, 3) := by decide +kernel
theorem dX3_imageFault_28 : decode cX3_imageFault 28 = .ok (.iload_n 3, 1) := by decide +kernel
theorem dX3_imageFault_29 : decode cX3_imageFault 29 = .ok (.sipush 200, 3) := by decide +kernel
theorem dX3_imageFault_32 : decode cX3_imageFault 32 = .ok (.if_icmp .le 7, 3) := by decide +kernel
theorem dX3_imageFault_35 : decode cX3_imageFault 35 = .ok (.iconst (-1), 1) := by decide +kernel
theorem dX3_imageFault_36 : decode cX3_imageFault 36 = .ok (.goto 4, 3) := by decide +kernel
theorem dX3_imageFault_39 : decode cX3_imageFault 39 = .ok (.iconst 0, 1) := by decide +kernel
theorem dX3_imageFault_40 : decode cX3_imageFault 40 = .ok (.ireturn, 1) := by decide +kernel
theorem dX3_changeImage_0 : decode cX3_changeImage 0 = .ok (.aload_n 0, 1) := by decide +kernel
theorem dX3_changeImage_1 : decode cX3_changeImage 1 = .ok (.iload_n 1, 1) := by decide +kernel
theorem dX3_changeImage_2 : decode cX3_changeImage 2 = .ok (.invokevirtual 129, 3) := by decide +kernel
theorem dX3_changeImage_5 : decode cX3_changeImage 5 = .ok (.ifCond .eq 7, 3) := by decide +kernel
theorem dX3_changeImage_8 : decode cX3_changeImage 8 = .ok (.iconst 1, 1) := by decide +kernel
theorem dX3_changeImage_9 : decode cX3_changeImage 9 = .ok (.goto 4, 3) := by decide +kernel
theorem dX3_changeImage_12 : decode cX3_changeImage 12 = .ok (.iconst 0, 1) := by decide +kernel
theorem dX3_changeImage_13 : decode cX3_changeImage 13 = .ok (.istore 4, 2) := by decide +kernel
theorem dX3_changeImage_15 : decode cX3_changeImage 15 = .ok (.iload_n 1, 1) := by decide +kernel
theorem dX3_changeImage_16 : decode cX3_changeImage 16 = .ok (.ifCond .lt 22, 3) := by decide +kernel
theorem dX3_changeImage_19 : decode cX3_changeImage 19 = .ok (.iload_n 1, 1) := by decide +kernel
theorem dX3_changeImage_20 : decode cX3_changeImage 20 = .ok (.iconst 4, 1) := by decide +kernel
theorem dX3_changeImage_21 : decode cX3_changeImage 21 = .ok (.if_icmp .ge 17, 3) := by decide +kernel
theorem dX3_changeImage_24 : decode cX3_changeImage 24 = .ok (.aload_n 0, 1) := by decide +kernel
theorem dX3_changeImage_25 : decode cX3_changeImage 25 = .ok (.getfield 9, 3) := by decide +kernel
theorem dX3_changeImage_28 : decode cX3_changeImage 28 = .ok (.iload_n 1, 1) := by decide +kernel
theorem dX3_changeImage_29 : decode cX3_changeImage 29 = .ok (.iload_n 2, 1) := by decide +kernel
theorem dX3_changeImage_30 : decode cX3_changeImage 30 = .ok (.iastore, 1) := by decide +kernel
theorem dX3_changeImage_31 : decode cX3_changeImage 31 = .ok (.aload_n 0, 1) := by decide +kernel
theorem dX3_changeImage_32 : decode cX3_changeImage 32 = .ok (.getfield 15, 3) := by decide +kernel
theorem dX3_changeImage_35 : decode cX3_changeImage 35 = .ok (.iload_n 1, 1) := by decide +kernel
theorem dX3_changeImage_36 : decode cX3_changeImage 36 = .ok (.iload_n 3, 1) := by decide +kernel
theorem dX3_changeImage_37 : decode cX3_changeImage 37 = .ok (.iastore, 1) := by decide +kernel
theorem dX3_changeImage_38 : decode cX3_changeImage 38 = .ok (.iload 4, 2) := by decide +kernel
theorem dX3_changeImage_40 : decode cX3_changeImage 40 = .ok (.ireturn, 1) := by decide +kernel
theorem dX3_printFault_0 : decode cX3_printFault 0 = .ok (.aload_n 0, 1) := by decide +kernel
theorem dX3_printFault_1 : decode cX3_printFault 1 = .ok (.iload_n 1, 1) := by decide +kernel
theorem dX3_printFault_2 : decode cX3_printFault 2 = .ok (.invokevirtual 78, 3) := by decide +kernel
theorem dX3_printFault_5 : decode cX3_printFault 5 = .ok (.ifCond .eq 22, 3) := by decide +kernel
theorem dX3_printFault_8 : decode cX3_printFault 8 = .ok (.iload_n 2, 1) := by decide +kernel
theorem dX3_printFault_9 : decode cX3_printFault 9 = .ok (.ifCond .lt 18, 3) := by decide +kernel
theorem dX3_printFault_12 : decode cX3_printFault 12 = .ok (.iload_n 2, 1) := by decide +kernel
theorem dX3_printFault_13 : decode cX3_printFault 13 = .ok (.iconst 4, 1) := by decide +kernel
theorem dX3_printFault_14 : decode cX3_printFault 14 = .ok (.if_icmp .ge 13, 3) := by decide +kernel
theorem dX3_printFault_17 : decode cX3_printFault 17 = .ok (.iload_n 3, 1) := by decide +kernel
theorem dX3_printFault_18 : decode cX3_printFault 18 = .ok (.ifCond .lt 9, 3) := by decide +kernel
theorem dX3_printFault_21 : decode cX3_printFault 21 = .ok (.iload_n 3, 1) := by decide +kernel
theorem dX3_printFault_22 : decode cX3_printFault 22 = .ok (.bipush 7, 2) := by decide +kernel
theorem dX3_printFault_24 : decode cX3_printFault 24 = .ok (.if_icmp .le 5, 3) := by decide +kernel
theorem dX3_printFault_27 : decode cX3_printFault 27 = .ok (.iconst (-1), 1) := by decide +kernel
theorem dX3_printFault_28 : decode cX3_printFault 28 = .ok (.ireturn, 1) := by decide +kernel
theorem dX3_printFault_29 : decode cX3_printFault 29 = .ok (.iload 4, 2) := by decide +kernel
theorem dX3_printFault_31 : decode cX3_printFault 31 = .ok (.invokestatic 132, 3) := by decide +kernel
theorem dX3_printFault_34 : decode cX3_printFault 34 = .ok (.ifCond .eq 11, 3) := by decide +kernel
theorem dX3_printFault_37 : decode cX3_printFault 37 = .ok (.iload 5, 2) := by decide +kernel
theorem dX3_printFault_39 : decode cX3_printFault 39 = .ok (.invokestatic 132, 3) := by decide +kernel
theorem dX3_printFault_42 : decode cX3_printFault 42 = .ok (.ifCond .ne 5, 3) := by decide +kernel
theorem dX3_printFault_45 : decode cX3_printFault 45 = .ok (.iconst (-1), 1) := by decide +kernel
theorem dX3_printFault_46 : decode cX3_printFault 46 = .ok (.ireturn, 1) := by decide +kernel
theorem dX3_printFault_47 : decode cX3_printFault 47 = .ok (.aload_n 0, 1) := by decide +kernel
theorem dX3_printFault_48 : decode cX3_printFault 48 = .ok (.iload_n 2, 1) := by decide +kernel
theorem dX3_printFault_49 : decode cX3_printFault 49 = .ok (.invokevirtual 129, 3) := by decide +kernel
theorem dX3_printFault_52 : decode cX3_printFault 52 = .ok (.ifCond .eq 7, 3) := by decide +kernel
theorem dX3_printFault_55 : decode cX3_printFault 55 = .ok (.iconst 0, 1) := by decide +kernel
theorem dX3_printFault_56 : decode cX3_printFault 56 = .ok (.goto 5, 3) := by decide +kernel
theorem dX3_printFault_59 : decode cX3_printFault 59 = .ok (.bipush (-2), 2) := by decide +kernel
theorem dX3_printFault_61 : decode cX3_printFault 61 = .ok (.ireturn, 1) := by decide +kernel
theorem dX3_print_0 : decode cX3_print 0 = .ok (.aload_n 0, 1) := by decide +kernel
theorem dX3_print_1 : decode cX3_print 1 = .ok (.iload_n 1, 1) := by decide +kernel
theorem dX3_print_2 : decode cX3_print 2 = .ok (.invokevirtual 39, 3) := by decide +kernel
theorem dX3_print_5 : decode cX3_print 5 = .ok (.astore 6, 2) := by decide +kernel
theorem dX3_print_7 : decode cX3_print 7 = .ok (.aload 6, 2) := by decide +kernel
theorem dX3_print_9 : decode cX3_print 9 = .ok (.getfield 135, 3) := by decide +kernel
theorem dX3_print_12 : decode cX3_print 12 = .ok (.istore 7, 2) := by decide +kernel
theorem dX3_print_14 : decode cX3_print 14 = .ok (.aload 6, 2) := by decide +kernel
theorem dX3_print_16 : decode cX3_print 16 = .ok (.iload_n 2, 1) := by decide +kernel
theorem dX3_print_17 : decode cX3_print 17 = .ok (.putfield 135, 3) := by decide +kernel
theorem dX3_print_20 : decode cX3_print 20 = .ok (.aload 6, 2) := by decide +kernel
theorem dX3_print_22 : decode cX3_print 22 = .ok (.iload_n 3, 1) := by decide +kernel
theorem dX3_print_23 : decode cX3_print 23 = .ok (.putfield 138, 3) := by decide +kernel
theorem dX3_print_26 : decode cX3_print 26 = .ok (.aload 6, 2) := by decide +kernel
theorem dX3_print_28 : decode cX3_print 28 = .ok (.iload 4, 2) := by decide +kernel
theorem dX3_print_30 : decode cX3_print 30 = .ok (.putfield 141, 3) := by decide +kernel
theorem dX3_print_33 : decode cX3_print 33 = .ok (.aload 6, 2) := by decide +kernel
theorem dX3_print_35 : decode cX3_print 35 = .ok (.iload 5, 2) := by decide +kernel
theorem dX3_print_37 : decode cX3_print 37 = .ok (.putfield 144, 3) := by decide +kernel
theorem dX3_print_40 : decode cX3_print 40 = .ok (.iload 7, 2) := by decide +kernel
theorem dX3_print_42 : decode cX3_print 42 = .ok (.ireturn, 1) := by decide +kernel
theorem dX3_bareFault_0 : decode cX3_bareFault 0 = .ok (.aload_n 0, 1) := by decide +kernel
theorem dX3_bareFault_1 : decode cX3_bareFault 1 = .ok (.iload_n 1, 1) := by decide +kernel
theorem dX3_bareFault_2 : decode cX3_bareFault 2 = .ok (.invokevirtual 78, 3) := by decide +kernel
theorem dX3_bareFault_5 : decode cX3_bareFault 5 = .ok (.ifCond .ne 5, 3) := by decide +kernel
theorem dX3_bareFault_8 : decode cX3_bareFault 8 = .ok (.iconst (-1), 1) := by decide +kernel
theorem dX3_bareFault_9 : decode cX3_bareFault 9 = .ok (.ireturn, 1) := by decide +kernel
theorem dX3_bareFault_10 : decode cX3_bareFault 10 = .ok (.aload_n 0, 1) := by decide +kernel
theorem dX3_bareFault_11 : decode cX3_bareFault 11 = .ok (.iload_n 1, 1) := by decide +kernel
theorem dX3_bareFault_12 : decode cX3_bareFault 12 = .ok (.invokevirtual 39, 3) := by decide +kernel
theorem dX3_bareFault_15 : decode cX3_bareFault 15 = .ok (.getfield 135, 3) := by decide +kernel
theorem dX3_bareFault_18 : decode cX3_bareFault 18 = .ok (.bipush (-9), 2) := by decide +kernel
theorem dX3_bareFault_20 : decode cX3_bareFault 20 = .ok (.if_icmp .ne 8, 3) := by decide +kernel
theorem dX3_bareFault_23 : decode cX3_bareFault 23 = .ok (.bipush (-2), 2) := by decide +kernel
theorem dX3_bareFault_25 : decode cX3_bareFault 25 = .ok (.goto 4, 3) := by decide +kernel
theorem dX3_bareFault_28 : decode cX3_bareFault 28 = .ok (.iconst 0, 1) := by decide +kernel
theorem dX3_bareFault_29 : decode cX3_bareFault 29 = .ok (.ireturn, 1) := by decide +kernel
theorem dX3_wipe_0 : decode cX3_wipe 0 = .ok (.aload_n 0, 1) := by decide +kernel
theorem dX3_wipe_1 : decode cX3_wipe 1 = .ok (.iload_n 1, 1) := by decide +kernel
theorem dX3_wipe_2 : decode cX3_wipe 2 = .ok (.invokevirtual 39, 3) := by decide +kernel
theorem dX3_wipe_5 : decode cX3_wipe 5 = .ok (.astore_n 2, 1) := by decide +kernel
theorem dX3_wipe_6 : decode cX3_wipe 6 = .ok (.aload_n 2, 1) := by decide +kernel
theorem dX3_wipe_7 : decode cX3_wipe 7 = .ok (.getfield 135, 3) := by decide +kernel
theorem dX3_wipe_10 : decode cX3_wipe 10 = .ok (.istore_n 3, 1) := by decide +kernel
theorem dX3_wipe_11 : decode cX3_wipe 11 = .ok (.aload_n 2, 1) := by decide +kernel
theorem dX3_wipe_12 : decode cX3_wipe 12 = .ok (.bipush (-9), 2) := by decide +kernel
theorem dX3_wipe_14 : decode cX3_wipe 14 = .ok (.putfield 135, 3) := by decide +kernel
theorem dX3_wipe_17 : decode cX3_wipe 17 = .ok (.iload_n 3, 1) := by decide +kernel
theorem dX3_wipe_18 : decode cX3_wipe 18 = .ok (.ireturn, 1) := by decide +kernel
theorem dX3_foldedPanels_0 : decode cX3_foldedPanels 0 = .ok (.iconst 0, 1) := by decide +kernel
theorem dX3_foldedPanels_1 : decode cX3_foldedPanels 1 = .ok (.istore_n 1, 1) := by decide +kernel
theorem dX3_foldedPanels_2 : decode cX3_foldedPanels 2 = .ok (.iconst 1, 1) := by decide +kernel
theorem dX3_foldedPanels_3 : decode cX3_foldedPanels 3 = .ok (.istore_n 2, 1) := by decide +kernel
theorem dX3_foldedPanels_4 : decode cX3_foldedPanels 4 = .ok (.iload_n 2, 1) := by decide +kernel
theorem dX3_foldedPanels_5 : decode cX3_foldedPanels 5 = .ok (.aload_n 0, 1) := by decide +kernel
theorem dX3_foldedPanels_6 : decode cX3_foldedPanels 6 = .ok (.getfield 25, 3) := by decide +kernel
theorem dX3_foldedPanels_9 : decode cX3_foldedPanels 9 = .ok (.if_icmp .ge 28, 3) := by decide +kernel
theorem dX3_foldedPanels_12 : decode cX3_foldedPanels 12 = .ok (.iload_n 1, 1) := by decide +kernel
theorem dX3_foldedPanels_13 : decode cX3_foldedPanels 13 = .ok (.aload_n 0, 1) := by decide +kernel
theorem dX3_foldedPanels_14 : decode cX3_foldedPanels 14 = .ok (.iload_n 2, 1) := by decide +kernel
theorem dX3_foldedPanels_15 : decode cX3_foldedPanels 15 = .ok (.invokevirtual 39, 3) := by decide +kernel
theorem dX3_foldedPanels_18 : decode cX3_foldedPanels 18 = .ok (.getfield 75, 3) := by decide +kernel
theorem dX3_foldedPanels_21 : decode cX3_foldedPanels 21 = .ok (.ifCond .eq 7, 3) := by decide +kernel
theorem dX3_foldedPanels_24 : decode cX3_foldedPanels 24 = .ok (.iconst 1, 1) := by decide +kernel
theorem dX3_foldedPanels_25 : decode cX3_foldedPanels 25 = .ok (.goto 4, 3) := by decide +kernel
theorem dX3_foldedPanels_28 : decode cX3_foldedPanels 28 = .ok (.iconst 0, 1) := by decide +kernel
theorem dX3_foldedPanels_29 : decode cX3_foldedPanels 29 = .ok (.iadd, 1) := by decide +kernel
theorem dX3_foldedPanels_30 : decode cX3_foldedPanels 30 = .ok (.istore_n 1, 1) := by decide +kernel
theorem dX3_foldedPanels_31 : decode cX3_foldedPanels 31 = .ok (.iinc 2 1, 3) := by decide +kernel
theorem dX3_foldedPanels_34 : decode cX3_foldedPanels 34 = .ok (.goto (-30), 3) := by decide +kernel
theorem dX3_foldedPanels_37 : decode cX3_foldedPanels 37 = .ok (.iload_n 1, 1) := by decide +kernel
theorem dX3_foldedPanels_38 : decode cX3_foldedPanels 38 = .ok (.ireturn, 1) := by decide +kernel
theorem dX3_flaps_0 : decode cX3_flaps 0 = .ok (.iconst 0, 1) := by decide +kernel
theorem dX3_flaps_1 : decode cX3_flaps 1 = .ok (.istore_n 1, 1) := by decide +kernel
theorem dX3_flaps_2 : decode cX3_flaps 2 = .ok (.iconst 1, 1) := by decide +kernel
theorem dX3_flaps_3 : decode cX3_flaps 3 = .ok (.istore_n 2, 1) := by decide +kernel
theorem dX3_flaps_4 : decode cX3_flaps 4 = .ok (.iload_n 2, 1) := by decide +kernel
theorem dX3_flaps_5 : decode cX3_flaps 5 = .ok (.aload_n 0, 1) := by decide +kernel
theorem dX3_flaps_6 : decode cX3_flaps 6 = .ok (.getfield 25, 3) := by decide +kernel
theorem dX3_flaps_9 : decode cX3_flaps 9 = .ok (.if_icmp .ge 28, 3) := by decide +kernel
theorem dX3_flaps_12 : decode cX3_flaps 12 = .ok (.iload_n 1, 1) := by decide +kernel
theorem dX3_flaps_13 : decode cX3_flaps 13 = .ok (.aload_n 0, 1) := by decide +kernel
theorem dX3_flaps_14 : decode cX3_flaps 14 = .ok (.iload_n 2, 1) := by decide +kernel
theorem dX3_flaps_15 : decode cX3_flaps 15 = .ok (.invokevirtual 39, 3) := by decide +kernel
theorem dX3_flaps_18 : decode cX3_flaps 18 = .ok (.invokevirtual 147, 3) := by decide +kernel
theorem dX3_flaps_21 : decode cX3_flaps 21 = .ok (.ifCond .eq 7, 3) := by decide +kernel
theorem dX3_flaps_24 : decode cX3_flaps 24 = .ok (.iconst 1, 1) := by decide +kernel
theorem dX3_flaps_25 : decode cX3_flaps 25 = .ok (.goto 4, 3) := by decide +kernel
theorem dX3_flaps_28 : decode cX3_flaps 28 = .ok (.iconst 0, 1) := by decide +kernel
theorem dX3_flaps_29 : decode cX3_flaps 29 = .ok (.iadd, 1) := by decide +kernel
theorem dX3_flaps_30 : decode cX3_flaps 30 = .ok (.istore_n 1, 1) := by decide +kernel
theorem dX3_flaps_31 : decode cX3_flaps 31 = .ok (.iinc 2 1, 3) := by decide +kernel
theorem dX3_flaps_34 : decode cX3_flaps 34 = .ok (.goto (-30), 3) := by decide +kernel
theorem dX3_flaps_37 : decode cX3_flaps 37 = .ok (.iload_n 1, 1) := by decide +kernel
theorem dX3_flaps_38 : decode cX3_flaps 38 = .ok (.ireturn, 1) := by decide +kernel
theorem dX3_definedImages_0 : decode cX3_definedImages 0 = .ok (.iconst 0, 1) := by decide +kernel
theorem dX3_definedImages_1 : decode cX3_definedImages 1 = .ok (.istore_n 1, 1) := by decide +kernel
theorem dX3_definedImages_2 : decode cX3_definedImages 2 = .ok (.iconst 0, 1) := by decide +kernel
theorem dX3_definedImages_3 : decode cX3_definedImages 3 = .ok (.istore_n 2, 1) := by decide +kernel
theorem dX3_definedImages_4 : decode cX3_definedImages 4 = .ok (.iload_n 2, 1) := by decide +kernel
theorem dX3_definedImages_5 : decode cX3_definedImages 5 = .ok (.iconst 4, 1) := by decide +kernel
theorem dX3_definedImages_6 : decode cX3_definedImages 6 = .ok (.if_icmp .ge 25, 3) := by decide +kernel
theorem dX3_definedImages_9 : decode cX3_definedImages 9 = .ok (.iload_n 1, 1) := by decide +kernel
theorem dX3_definedImages_10 : decode cX3_definedImages 10 = .ok (.aload_n 0, 1) := by decide +kernel
theorem dX3_definedImages_11 : decode cX3_definedImages 11 = .ok (.iload_n 2, 1) := by decide +kernel
theorem dX3_definedImages_12 : decode cX3_definedImages 12 = .ok (.invokevirtual 129, 3) := by decide +kernel
theorem dX3_definedImages_15 : decode cX3_definedImages 15 = .ok (.ifCond .eq 7, 3) := by decide +kernel
theorem dX3_definedImages_18 : decode cX3_definedImages 18 = .ok (.iconst 1, 1) := by decide +kernel
theorem dX3_definedImages_19 : decode cX3_definedImages 19 = .ok (.goto 4, 3) := by decide +kernel
theorem dX3_definedImages_22 : decode cX3_definedImages 22 = .ok (.iconst 0, 1) := by decide +kernel
theorem dX3_definedImages_23 : decode cX3_definedImages 23 = .ok (.iadd, 1) := by decide +kernel
theorem dX3_definedImages_24 : decode cX3_definedImages 24 = .ok (.istore_n 1, 1) := by decide +kernel
theorem dX3_definedImages_25 : decode cX3_definedImages 25 = .ok (.iinc 2 1, 3) := by decide +kernel
theorem dX3_definedImages_28 : decode cX3_definedImages 28 = .ok (.goto (-24), 3) := by decide +kernel
theorem dX3_definedImages_31 : decode cX3_definedImages 31 = .ok (.iload_n 1, 1) := by decide +kernel
theorem dX3_definedImages_32 : decode cX3_definedImages 32 = .ok (.ireturn, 1) := by decide +kernel
theorem dX3_isAllFolds_0 : decode cX3_isAllFolds 0 = .ok (.aload_n 0, 1) := by decide +kernel
theorem dX3_isAllFolds_1 : decode cX3_isAllFolds 1 = .ok (.iload_n 1, 1) := by decide +kernel
theorem dX3_isAllFolds_2 : decode cX3_isAllFolds 2 = .ok (.invokevirtual 39, 3) := by decide +kernel
theorem dX3_isAllFolds_5 : decode cX3_isAllFolds 5 = .ok (.astore_n 3, 1) := by decide +kernel
theorem dX3_isAllFolds_6 : decode cX3_isAllFolds 6 = .ok (.aload_n 3, 1) := by decide +kernel
theorem dX3_isAllFolds_7 : decode cX3_isAllFolds 7 = .ok (.invokevirtual 150, 3) := by decide +kernel
theorem dX3_isAllFolds_10 : decode cX3_isAllFolds 10 = .ok (.iload_n 2, 1) := by decide +kernel
theorem dX3_isAllFolds_11 : decode cX3_isAllFolds 11 = .ok (.if_icmp .ne 5, 3) := by decide +kernel
theorem dX3_isAllFolds_14 : decode cX3_isAllFolds 14 = .ok (.iconst 1, 1) := by decide +kernel
theorem dX3_isAllFolds_15 : decode cX3_isAllFolds 15 = .ok (.ireturn, 1) := by decide +kernel
theorem dX3_isAllFolds_16 : decode cX3_isAllFolds 16 = .ok (.iconst 0, 1) := by decide +kernel
theorem dX3_isAllFolds_17 : decode cX3_isAllFolds 17 = .ok (.istore 4, 2) := by decide +kernel
theorem dX3_isAllFolds_19 : decode cX3_isAllFolds 19 = .ok (.iload_n 1, 1) := by decide +kernel
theorem dX3_isAllFolds_20 : decode cX3_isAllFolds 20 = .ok (.iconst 1, 1) := by decide +kernel
theorem dX3_isAllFolds_21 : decode cX3_isAllFolds 21 = .ok (.iadd, 1) := by decide +kernel
theorem dX3_isAllFolds_22 : decode cX3_isAllFolds 22 = .ok (.istore 5, 2) := by decide +kernel
theorem dX3_isAllFolds_24 : decode cX3_isAllFolds 24 = .ok (.iload 5, 2) := by decide +kernel
theorem dX3_isAllFolds_26 : decode cX3_isAllFolds 26 = .ok (.aload_n 0, 1) := by decide +kernel
theorem dX3_isAllFolds_27 : decode cX3_isAllFolds 27 = .ok (.getfield 25, 3) := by decide +kernel
theorem dX3_isAllFolds_30 : decode cX3_isAllFolds 30 = .ok (.if_icmp .ge 41, 3) := by decide +kernel
theorem dX3_isAllFolds_33 : decode cX3_isAllFolds 33 = .ok (.iload 4, 2) := by decide +kernel
theorem dX3_isAllFolds_35 : decode cX3_isAllFolds 35 = .ok (.aload_n 0, 1) := by decide +kernel
theorem dX3_isAllFolds_36 : decode cX3_isAllFolds 36 = .ok (.iload 5, 2) := by decide +kernel
theorem dX3_isAllFolds_38 : decode cX3_isAllFolds 38 = .ok (.invokevirtual 39, 3) := by decide +kernel
theorem dX3_isAllFolds_41 : decode cX3_isAllFolds 41 = .ok (.iload_n 1, 1) := by decide +kernel
theorem dX3_isAllFolds_42 : decode cX3_isAllFolds 42 = .ok (.iload_n 2, 1) := by decide +kernel
theorem dX3_isAllFolds_43 : decode cX3_isAllFolds 43 = .ok (.invokevirtual 154, 3) := by decide +kernel
theorem dX3_isAllFolds_46 : decode cX3_isAllFolds 46 = .ok (.ifCond .eq 15, 3) := by decide +kernel
theorem dX3_isAllFolds_49 : decode cX3_isAllFolds 49 = .ok (.aload_n 0, 1) := by decide +kernel
theorem dX3_isAllFolds_50 : decode cX3_isAllFolds 50 = .ok (.iload 5, 2) := by decide +kernel
theorem dX3_isAllFolds_52 : decode cX3_isAllFolds 52 = .ok (.invokevirtual 39, 3) := by decide +kernel
theorem dX3_isAllFolds_55 : decode cX3_isAllFolds 55 = .ok (.getfield 94, 3) := by decide +kernel
theorem dX3_isAllFolds_58 : decode cX3_isAllFolds 58 = .ok (.goto 4, 3) := by decide +kernel
theorem dX3_isAllFolds_61 : decode cX3_isAllFolds 61 = .ok (.iconst 0, 1) := by decide +kernel
theorem dX3_isAllFolds_62 : decode cX3_isAllFolds 62 = .ok (.iadd, 1) := by decide +kernel
theorem dX3_isAllFolds_63 : decode cX3_isAllFolds 63 = .ok (.istore 4, 2) := by decide +kernel
theorem dX3_isAllFolds_65 : decode cX3_isAllFolds 65 = .ok (.iinc 5 1, 3) := by decide +kernel
theorem dX3_isAllFolds_68 : decode cX3_isAllFolds 68 = .ok (.goto (-44), 3) := by decide +kernel
theorem dX3_isAllFolds_71 : decode cX3_isAllFolds 71 = .ok (.iload 4, 2) := by decide +kernel
theorem dX3_isAllFolds_73 : decode cX3_isAllFolds 73 = .ok (.aload_n 3, 1) := by decide +kernel
theorem dX3_isAllFolds_74 : decode cX3_isAllFolds 74 = .ok (.iload_n 2, 1) := by decide +kernel
theorem dX3_isAllFolds_75 : decode cX3_isAllFolds 75 = .ok (.invokevirtual 104, 3) := by decide +kernel
theorem dX3_isAllFolds_78 : decode cX3_isAllFolds 78 = .ok (.if_icmp .lt 7, 3) := by decide +kernel
theorem dX3_isAllFolds_81 : decode cX3_isAllFolds 81 = .ok (.iconst 1, 1) := by decide +kernel
theorem dX3_isAllFolds_82 : decode cX3_isAllFolds 82 = .ok (.goto 4, 3) := by decide +kernel
theorem dX3_isAllFolds_85 : decode cX3_isAllFolds 85 = .ok (.iconst 0, 1) := by decide +kernel
theorem dX3_isAllFolds_86 : decode cX3_isAllFolds 86 = .ok (.ireturn, 1) := by decide +kernel
theorem dX4_init_0 : decode cX4_init 0 = .ok (.aload_n 0, 1) := by decide +kernel
theorem dX4_init_1 : decode cX4_init 1 = .ok (.invokespecial 3, 3) := by decide +kernel
theorem dX4_init_4 : decode cX4_init 4 = .ok (.aload_n 0, 1) := by decide +kernel
theorem dX4_init_5 : decode cX4_init 5 = .ok (.iconst 0, 1) := by decide +kernel
theorem dX4_init_6 : decode cX4_init 6 = .ok (.putfield 9, 3) := by decide +kernel
theorem dX4_init_9 : decode cX4_init 9 = .ok (.aload_n 0, 1) := by decide +kernel
theorem dX4_init_10 : decode cX4_init 10 = .ok (.lconst 0, 1) := by decide +kernel
theorem dX4_init_11 : decode cX4_init 11 = .ok (.putfield 15, 3) := by decide +kernel
theorem dX4_init_14 : decode cX4_init 14 = .ok (.aload_n 0, 1) := by decide +kernel
theorem dX4_init_15 : decode cX4_init 15 = .ok (.iconst 4, 1) := by decide +kernel
theorem dX4_init_16 : decode cX4_init 16 = .ok (.newarray .int, 2) := by decide +kernel
theorem dX4_init_18 : decode cX4_init 18 = .ok (.dup, 1) := by decide +kernel
theorem dX4_init_19 : decode cX4_init 19 = .ok (.iconst 0, 1) := by decide +kernel
theorem dX4_init_20 : decode cX4_init 20 = .ok (.iconst 1, 1) := by decide +kernel
theorem dX4_init_21 : decode cX4_init 21 = .ok (.iastore, 1) := by decide +kernel
theorem dX4_init_22 : decode cX4_init 22 = .ok (.dup, 1) := by decide +kernel
theorem dX4_init_23 : decode cX4_init 23 = .ok (.iconst 1, 1) := by decide +kernel
theorem dX4_init_24 : decode cX4_init 24 = .ok (.iconst 3, 1) := by decide +kernel
theorem dX4_init_25 : decode cX4_init 25 = .ok (.iastore, 1) := by decide +kernel
theorem dX4_init_26 : decode cX4_init 26 = .ok (.dup, 1) := by decide +kernel
theorem dX4_init_27 : decode cX4_init 27 = .ok (.iconst 2, 1) := by decide +kernel
theorem dX4_init_28 : decode cX4_init 28 = .ok (.iconst 2, 1) := by decide +kernel
theorem dX4_init_29 : decode cX4_init 29 = .ok (.iastore, 1) := by decide +kernel
theorem dX4_init_30 : decode cX4_init 30 = .ok (.dup, 1) := by decide +kernel
theorem dX4_init_31 : decode cX4_init 31 = .ok (.iconst 3, 1) := by decide +kernel
theorem dX4_init_32 : decode cX4_init 32 = .ok (.bipush 80, 2) := by decide +kernel
theorem dX4_init_34 : decode cX4_init 34 = .ok (.iastore, 1) := by decide +kernel
theorem dX4_init_35 : decode cX4_init 35 = .ok (.putfield 19, 3) := by decide +kernel
theorem dX4_init_38 : decode cX4_init 38 = .ok (.aload_n 0, 1) := by decide +kernel
theorem dX4_init_39 : decode cX4_init 39 = .ok (.bipush 8, 2) := by decide +kernel
theorem dX4_init_41 : decode cX4_init 41 = .ok (.newarray .int, 2) := by decide +kernel
theorem dX4_init_43 : decode cX4_init 43 = .ok (.dup, 1) := by decide +kernel
theorem dX4_init_44 : decode cX4_init 44 = .ok (.iconst 0, 1) := by decide +kernel
theorem dX4_init_45 : decode cX4_init 45 = .ok (.iconst 1, 1) := by decide +kernel
theorem dX4_init_46 : decode cX4_init 46 = .ok (.iastore, 1) := by decide +kernel
theorem dX4_init_47 : decode cX4_init 47 = .ok (.dup, 1) := by decide +kernel
theorem dX4_init_48 : decode cX4_init 48 = .ok (.iconst 1, 1) := by decide +kernel
theorem dX4_init_49 : decode cX4_init 49 = .ok (.iconst 1, 1) := by decide +kernel
theorem dX4_init_50 : decode cX4_init 50 = .ok (.iastore, 1) := by decide +kernel
theorem dX4_init_51 : decode cX4_init 51 = .ok (.dup, 1) := by decide +kernel
theorem dX4_init_52 : decode cX4_init 52 = .ok (.iconst 2, 1) := by decide +kernel
theorem dX4_init_53 : decode cX4_init 53 = .ok (.iconst 1, 1) := by decide +kernel
theorem dX4_init_54 : decode cX4_init 54 = .ok (.iastore, 1) := by decide +kernel
theorem dX4_init_55 : decode cX4_init 55 = .ok (.dup, 1) := by decide +kernel
theorem dX4_init_56 : decode cX4_init 56 = .ok (.iconst 3, 1) := by decide +kernel
theorem dX4_init_57 : decode cX4_init 57 = .ok (.iconst 1, 1) := by decide +kernel
theorem dX4_init_58 : decode cX4_init 58 = .ok (.iastore, 1) := by decide +kernel
theorem dX4_init_59 : decode cX4_init 59 = .ok (.dup, 1) := by decide +kernel
theorem dX4_init_60 : decode cX4_init 60 = .ok (.iconst 4, 1) := by decide +kernel
theorem dX4_init_61 : decode cX4_init 61 = .ok (.iconst 1, 1) := by decide +kernel
theorem dX4_init_62 : decode cX4_init 62 = .ok (.iastore, 1) := by decide +kernel
theorem dX4_init_63 : decode cX4_init 63 = .ok (.dup, 1) := by decide +kernel
theorem dX4_init_64 : decode cX4_init 64 = .ok (.iconst 5, 1) := by decide +kernel
theorem dX4_init_65 : decode cX4_init 65 = .ok (.iconst 1, 1) := by decide +kernel
theorem dX4_init_66 : decode cX4_init 66 = .ok (.iastore, 1) := by decide +kernel
theorem dX4_init_67 : decode cX4_init 67 = .ok (.dup, 1) := by decide +kernel
theorem dX4_init_68 : decode cX4_init 68 = .ok (.bipush 6, 2) := by decide +kernel
theorem dX4_init_70 : decode cX4_init 70 = .ok (.iconst 1, 1) := by decide +kernel
theorem dX4_init_71 : decode cX4_init 71 = .ok (.iastore, 1) := by decide +kernel
theorem dX4_init_72 : decode cX4_init 72 = .ok (.dup, 1) := by decide +kernel
theorem dX4_init_73 : decode cX4_init 73 = .ok (.bipush 7, 2) := by decide +kernel
theorem dX4_init_75 : decode cX4_init 75 = .ok (.iconst 1, 1) := by decide +kernel
theorem dX4_init_76 : decode cX4_init 76 = .ok (.iastore, 1) := by decide +kernel
theorem dX4_init_77 : decode cX4_init 77 = .ok (.putfield 23, 3) := by decide +kernel
theorem dX4_init_80 : decode cX4_init 80 = .ok (.aload_n 0, 1) := by decide +kernel
theorem dX4_init_81 : decode cX4_init 81 = .ok (.new 26, 3) := by decide +kernel
theorem dX4_init_84 : decode cX4_init 84 = .ok (.dup, 1) := by decide +kernel
theorem dX4_init_85 : decode cX4_init 85 = .ok (.invokespecial 28, 3) := by decide +kernel
theorem dX4_init_88 : decode cX4_init 88 = .ok (.putfield 29, 3) := by decide +kernel
theorem dX4_init_91 : decode cX4_init 91 = .ok (.aload_n 0, 1) := by decide +kernel
theorem dX4_init_92 : decode cX4_init 92 = .ok (.aload_n 0, 1) := by decide +kernel
theorem dX4_init_93 : decode cX4_init 93 = .ok (.getfield 29, 3) := by decide +kernel
theorem dX4_init_96 : decode cX4_init 96 = .ok (.getfield 33, 3) := by decide +kernel
theorem dX4_init_99 : decode cX4_init 99 = .ok (.putfield 37, 3) := by decide +kernel
theorem dX4_init_102 : decode cX4_init 102 = .ok (.aload_n 0, 1) := by decide +kernel
theorem dX4_init_103 : decode cX4_init 103 = .ok (.aload_n 0, 1) := by decide +kernel
theorem dX4_init_104 : decode cX4_init 104 = .ok (.getfield 37, 3) := by decide +kernel
theorem dX4_init_107 : decode cX4_init 107 = .ok (.getfield 38, 3) := by decide +kernel
theorem dX4_init_110 : decode cX4_init 110 = .ok (.putfield 44, 3) := by decide +kernel
theorem dX4_init_113 : decode cX4_init 113 = .ok (.aload_n 0, 1) := by decide +kernel
theorem dX4_init_114 : decode cX4_init 114 = .ok (.sipush 1000, 3) := by decide +kernel
theorem dX4_init_117 : decode cX4_init 117 = .ok (.newarray .long, 2) := by decide +kernel
theorem dX4_init_119 : decode cX4_init 119 = .ok (.putfield 45, 3) := by decide +kernel
theorem dX4_init_122 : decode cX4_init 122 = .ok (.return_, 1) := by decide +kernel
theorem dX4_limit_0 : decode cX4_limit 0 = .ok (.iload_n 1, 1) := by decide +kernel
theorem dX4_limit_1 : decode cX4_limit 1 = .ok (.ifCond .lt 21, 3) := by decide +kernel
theorem dX4_limit_4 : decode cX4_limit 4 = .ok (.iload_n 1, 1) := by decide +kernel
theorem dX4_limit_5 : decode cX4_limit 5 = .ok (.aload_n 0, 1) := by decide +kernel
theorem dX4_limit_6 : decode cX4_limit 6 = .ok (.getfield 19, 3) := by decide +kernel
theorem dX4_limit_9 : decode cX4_limit 9 = .ok (.arraylength, 1) := by decide +kernel
theorem dX4_limit_10 : decode cX4_limit 10 = .ok (.if_icmp .ge 12, 3) := by decide +kernel
theorem dX4_limit_13 : decode cX4_limit 13 = .ok (.aload_n 0, 1) := by decide +kernel
theorem dX4_limit_14 : decode cX4_limit 14 = .ok (.getfield 19, 3) := by decide +kernel
theorem dX4_limit_17 : decode cX4_limit 17 = .ok (.iload_n 1, 1) := by decide +kernel
theorem dX4_limit_18 : decode cX4_limit 18 = .ok (.iaload, 1) := by decide +kernel
theorem dX4_limit_19 : decode cX4_limit 19 = .ok (.goto 4, 3) := by decide +kernel
theorem dX4_limit_22 : decode cX4_limit 22 = .ok (.iconst 0, 1) := by decide +kernel
theorem dX4_limit_23 : decode cX4_limit 23 = .ok (.ireturn, 1) := by decide +kernel
theorem dX4_weight_0 : decode cX4_weight 0 = .ok (.iload_n 1, 1) := by decide +kernel
theorem dX4_weight_1 : decode cX4_weight 1 = .ok (.ifCond .lt 21, 3) := by decide +kernel
theorem dX4_weight_4 : decode cX4_weight 4 = .ok (.iload_n 1, 1) := by decide +kernel
theorem dX4_weight_5 : decode cX4_weight 5 = .ok (.aload_n 0, 1) := by decide +kernel
theorem dX4_weight_6 : decode cX4_weight 6 = .ok (.getfield 23, 3) := by decide +kernel
theorem dX4_weight_9 : decode cX4_weight 9 = .ok (.arraylength, 1) := by decide +kernel
theorem dX4_weight_10 : decode cX4_weight 10 = .ok (.if_icmp .ge 12, 3) := by decide +kernel
theorem dX4_weight_13 : decode cX4_weight 13 = .ok (.aload_n 0, 1) := by decide +kernel
theorem dX4_weight_14 : decode cX4_weight 14 = .ok (.getfield 23, 3) := by decide +kernel
theorem dX4_weight_17 : decode cX4_weight 17 = .ok (.iload_n 1, 1) := by decide +kernel
theorem dX4_weight_18 : decode cX4_weight 18 = .ok (.iaload, 1) := by decide +kernel
theorem dX4_weight_19 : decode cX4_weight 19 = .ok (.goto 4, 3) := by decide +kernel
theorem dX4_weight_22 : decode cX4_weight 22 = .ok (.iconst 0, 1) := by decide +kernel
theorem dX4_weight_23 : decode cX4_weight 23 = .ok (.ireturn, 1) := by decide +kernel
theorem dX4_collect_0 : decode cX4_collect 0 = .ok (.aload_n 0, 1) := by decide +kernel
theorem dX4_collect_1 : decode cX4_collect 1 = .ok (.iconst 0, 1) := by decide +kernel
theorem dX4_collect_2 : decode cX4_collect 2 = .ok (.putfield 9, 3) := by decide +kernel
theorem dX4_collect_5 : decode cX4_collect 5 = .ok (.aload_n 0, 1) := by decide +kernel
theorem dX4_collect_6 : decode cX4_collect 6 = .ok (.lconst 0, 1) := by decide +kernel
theorem dX4_collect_7 : decode cX4_collect 7 = .ok (.putfield 15, 3) := by decide +kernel
theorem dX4_collect_10 : decode cX4_collect 10 = .ok (.aload_n 0, 1) := by decide +kernel
theorem dX4_collect_11 : decode cX4_collect 11 = .ok (.getfield 44, 3) := by decide +kernel
theorem dX4_collect_14 : decode cX4_collect 14 = .ok (.aload_n 1, 1) := by decide +kernel
theorem dX4_collect_15 : decode cX4_collect 15 = .ok (.iconst (-1), 1) := by decide +kernel
theorem dX4_collect_16 : decode cX4_collect 16 = .ok (.invokevirtual 49, 3) := by decide +kernel
theorem dX4_collect_19 : decode cX4_collect 19 = .ok (.aload_n 0, 1) := by decide +kernel
theorem dX4_collect_20 : decode cX4_collect 20 = .ok (.getfield 37, 3) := by decide +kernel
theorem dX4_collect_23 : decode cX4_collect 23 = .ok (.aload_n 0, 1) := by decide +kernel
theorem dX4_collect_24 : decode cX4_collect 24 = .ok (.iconst 0, 1) := by decide +kernel
theorem dX4_collect_25 : decode cX4_collect 25 = .ok (.invokevirtual 55, 3) := by decide +kernel
theorem dX4_collect_28 : decode cX4_collect 28 = .ok (.invokevirtual 59, 3) := by decide +kernel
theorem dX4_collect_31 : decode cX4_collect 31 = .ok (.aload_n 0, 1) := by decide +kernel
theorem dX4_collect_32 : decode cX4_collect 32 = .ok (.aload_n 1, 1) := by decide +kernel
theorem dX4_collect_33 : decode cX4_collect 33 = .ok (.invokevirtual 63, 3) := by decide +kernel
theorem dX4_collect_36 : decode cX4_collect 36 = .ok (.iconst 0, 1) := by decide +kernel
theorem dX4_collect_37 : decode cX4_collect 37 = .ok (.istore_n 2, 1) := by decide +kernel
theorem dX4_collect_38 : decode cX4_collect 38 = .ok (.iload_n 2, 1) := by decide +kernel
theorem dX4_collect_39 : decode cX4_collect 39 = .ok (.aload_n 1, 1) := by decide +kernel
theorem dX4_collect_40 : decode cX4_collect 40 = .ok (.getfield 67, 3) := by decide +kernel
theorem dX4_collect_43 : decode cX4_collect 43 = .ok (.if_icmp .ge 50, 3) := by decide +kernel
theorem dX4_collect_46 : decode cX4_collect 46 = .ok (.aload_n 1, 1) := by decide +kernel
theorem dX4_collect_47 : decode cX4_collect 47 = .ok (.iload_n 2, 1) := by decide +kernel
theorem dX4_collect_48 : decode cX4_collect 48 = .ok (.invokevirtual 72, 3) := by decide +kernel
theorem dX4_collect_51 : decode cX4_collect 51 = .ok (.astore_n 3, 1) := by decide +kernel
theorem dX4_collect_52 : decode cX4_collect 52 = .ok (.aload_n 3, 1) := by decide +kernel
theorem dX4_collect_53 : decode cX4_collect 53 = .ok (.invokevirtual 76, 3) := by decide +kernel
theorem dX4_collect_56 : decode cX4_collect 56 = .ok (.ifCond .eq 12, 3) := by decide +kernel
theorem dX4_collect_59 : decode cX4_collect 59 = .ok (.aload_n 0, 1) := by decide +kernel
theorem dX4_collect_60 : decode cX4_collect 60 = .ok (.aload_n 1, 1) := by decide +kernel
theorem dX4_collect_61 : decode cX4_collect 61 = .ok (.iload_n 2, 1) := by decide +kernel
theorem dX4_collect_62 : decode cX4_collect 62 = .ok (.invokevirtual 82, 3) := by decide +kernel
theorem dX4_collect_65 : decode cX4_collect 65 = .ok (.goto 8, 3) := by decide +kernel
theorem dX4_collect_68 : decode cX4_collect 68 = .ok (.aload_n 0, 1) := by decide +kernel
theorem dX4_collect_69 : decode cX4_collect 69 = .ok (.iload_n 2, 1) := by decide +kernel
theorem dX4_collect_70 : decode cX4_collect 70 = .ok (.invokevirtual 85, 3) := by decide +kernel
theorem dX4_collect_73 : decode cX4_collect 73 = .ok (.aload_n 1, 1) := by decide +kernel
theorem dX4_collect_74 : decode cX4_collect 74 = .ok (.aload_n 3, 1) := by decide +kernel
theorem dX4_collect_75 : decode cX4_collect 75 = .ok (.invokestatic 88, 3) := by decide +kernel
theorem dX4_collect_78 : decode cX4_collect 78 = .ok (.ifCond .eq 9, 3) := by decide +kernel
theorem dX4_collect_81 : decode cX4_collect 81 = .ok (.aload_n 0, 1) := by decide +kernel
theorem dX4_collect_82 : decode cX4_collect 82 = .ok (.aload_n 1, 1) := by decide +kernel
theorem dX4_collect_83 : decode cX4_collect 83 = .ok (.iload_n 2, 1) := by decide +kernel
theorem dX4_collect_84 : decode cX4_collect 84 = .ok (.invokevirtual 92, 3) := by decide +kernel
theorem dX4_collect_87 : decode cX4_collect 87 = .ok (.iinc 2 1, 3) := by decide +kernel
theorem dX4_collect_90 : decode cX4_collect 90 = .ok (.goto (-52), 3) := by decide +kernel
theorem dX4_collect_93 : decode cX4_collect 93 = .ok (.aload_n 0, 1) := by decide +kernel
theorem dX4_collect_94 : decode cX4_collect 94 = .ok (.aload_n 1, 1) := by decide +kernel
theorem dX4_collect_95 : decode cX4_collect 95 = .ok (.invokevirtual 95, 3) := by decide +kernel
theorem dX4_collect_98 : decode cX4_collect 98 = .ok (.return_, 1) := by decide +kernel
theorem dX4_add_0 : decode cX4_add 0 = .ok (.aload_n 0, 1) := by decide +kernel
theorem dX4_add_1 : decode cX4_add 1 = .ok (.iload_n 1, 1) := by decide +kernel
theorem dX4_add_2 : decode cX4_add 2 = .ok (.invokevirtual 98, 3) := by decide +kernel
theorem dX4_add_5 : decode cX4_add 5 = .ok (.istore 6, 2) := by decide +kernel
theorem dX4_add_7 : decode cX4_add 7 = .ok (.iload 5, 2) := by decide +kernel
theorem dX4_add_9 : decode cX4_add 9 = .ok (.ifCond .le 18, 3) := by decide +kernel
theorem dX4_add_12 : decode cX4_add 12 = .ok (.iload 6, 2) := by decide +kernel
theorem dX4_add_14 : decode cX4_add 14 = .ok (.ifCond .le 13, 3) := by decide +kernel
theorem dX4_add_17 : decode cX4_add 17 = .ok (.aload_n 0, 1) := by decide +kernel
theorem dX4_add_18 : decode cX4_add 18 = .ok (.getfield 9, 3) := by decide +kernel
theorem dX4_add_21 : decode cX4_add 21 = .ok (.sipush 1000, 3) := by decide +kernel
theorem dX4_add_24 : decode cX4_add 24 = .ok (.if_icmp .lt 4, 3) := by decide +kernel
theorem dX4_add_27 : decode cX4_add 27 = .ok (.return_, 1) := by decide +kernel
theorem dX4_add_28 : decode cX4_add 28 = .ok (.iload 6, 2) := by decide +kernel
theorem dX4_add_30 : decode cX4_add 30 = .ok (.i2l, 1) := by decide +kernel
theorem dX4_add_31 : decode cX4_add 31 = .ok (.iload 5, 2) := by decide +kernel
theorem dX4_add_33 : decode cX4_add 33 = .ok (.i2l, 1) := by decide +kernel
theorem dX4_add_34 : decode cX4_add 34 = .ok (.lmul, 1) := by decide +kernel
theorem dX4_add_35 : decode cX4_add 35 = .ok (.lstore 7, 2) := by decide +kernel
theorem dX4_add_37 : decode cX4_add 37 = .ok (.iload_n 3, 1) := by decide +kernel
theorem dX4_add_38 : decode cX4_add 38 = .ok (.bipush (-9), 2) := by decide +kernel
theorem dX4_add_40 : decode cX4_add 40 = .ok (.if_icmp .ne 7, 3) := by decide +kernel
theorem dX4_add_43 : decode cX4_add 43 = .ok (.iconst 0, 1) := by decide +kernel
theorem dX4_add_44 : decode cX4_add 44 = .ok (.goto 6, 3) := by decide +kernel
theorem dX4_add_47 : decode cX4_add 47 = .ok (.iload_n 3, 1) := by decide +kernel
theorem dX4_add_48 : decode cX4_add 48 = .ok (.iconst 1, 1) := by decide +kernel
theorem dX4_add_49 : decode cX4_add 49 = .ok (.iadd, 1) := by decide +kernel
theorem dX4_add_50 : decode cX4_add 50 = .ok (.istore 9, 2) := by decide +kernel
theorem dX4_add_52 : decode cX4_add 52 = .ok (.iload 4, 2) := by decide +kernel
theorem dX4_add_54 : decode cX4_add 54 = .ok (.bipush (-9), 2) := by decide +kernel
theorem dX4_add_56 : decode cX4_add 56 = .ok (.if_icmp .ne 7, 3) := by decide +kernel
theorem dX4_add_59 : decode cX4_add 59 = .ok (.iconst 0, 1) := by decide +kernel
theorem dX4_add_60 : decode cX4_add 60 = .ok (.goto 7, 3) := by decide +kernel
theorem dX4_add_63 : decode cX4_add 63 = .ok (.iload 4, 2) := by decide +kernel
theorem dX4_add_65 : decode cX4_add 65 = .ok (.iconst 1, 1) := by decide +kernel
theorem dX4_add_66 : decode cX4_add 66 = .ok (.iadd, 1) := by decide +kernel
theorem dX4_add_67 : decode cX4_add 67 = .ok (.istore 10, 2) := by decide +kernel
theorem dX4_add_69 : decode cX4_add 69 = .ok (.aload_n 0, 1) := by decide +kernel
theorem dX4_add_70 : decode cX4_add 70 = .ok (.getfield 45, 3) := by decide +kernel
theorem dX4_add_73 : decode cX4_add 73 = .ok (.aload_n 0, 1) := by decide +kernel
theorem dX4_add_74 : decode cX4_add 74 = .ok (.getfield 9, 3) := by decide +kernel
theorem dX4_add_77 : decode cX4_add 77 = .ok (.ldc2_w 101, 3) := by decide +kernel
theorem dX4_add_80 : decode cX4_add 80 = .ok (.lload 7, 2) := by decide +kernel
theorem dX4_add_82 : decode cX4_add 82 = .ok (.lsub, 1) := by decide +kernel
theorem dX4_add_83 : decode cX4_add 83 = .ok (.bipush 14, 2) := by decide +kernel
theorem dX4_add_85 : decode cX4_add 85 = .ok (.lshl, 1) := by decide +kernel
theorem dX4_add_86 : decode cX4_add 86 = .ok (.iload_n 1, 1) := by decide +kernel
theorem dX4_add_87 : decode cX4_add 87 = .ok (.bipush 11, 2) := by decide +kernel
theorem dX4_add_89 : decode cX4_add 89 = .ok (.ishl, 1) := by decide +kernel
theorem dX4_add_90 : decode cX4_add 90 = .ok (.iload_n 2, 1) := by decide +kernel
theorem dX4_add_91 : decode cX4_add 91 = .ok (.bipush 7, 2) := by decide +kernel
theorem dX4_add_93 : decode cX4_add 93 = .ok (.ishl, 1) := by decide +kernel
theorem dX4_add_94 : decode cX4_add 94 = .ok (.ior, 1) := by decide +kernel
theorem dX4_add_95 : decode cX4_add 95 = .ok (.iload 9, 2) := by decide +kernel
theorem dX4_add_97 : decode cX4_add 97 = .ok (.iconst 4, 1) := by decide +kernel
theorem dX4_add_98 : decode cX4_add 98 = .ok (.ishl, 1) := by decide +kernel
theorem dX4_add_99 : decode cX4_add 99 = .ok (.ior, 1) := by decide +kernel
theorem dX4_add_100 : decode cX4_add 100 = .ok (.iload 10, 2) := by decide +kernel
theorem dX4_add_102 : decode cX4_add 102 = .ok (.ior, 1) := by decide +kernel
theorem dX4_add_103 : decode cX4_add 103 = .ok (.i2l, 1) := by decide +kernel
theorem dX4_add_104 : decode cX4_add 104 = .ok (.lor, 1) := by decide +kernel
theorem dX4_add_105 : decode cX4_add 105 = .ok (.lastore, 1) := by decide +kernel
theorem dX4_add_106 : decode cX4_add 106 = .ok (.aload_n 0, 1) := by decide +kernel
theorem dX4_add_107 : decode cX4_add 107 = .ok (.dup, 1) := by decide +kernel
theorem dX4_add_108 : decode cX4_add 108 = .ok (.getfield 9, 3) := by decide +kernel
theorem dX4_add_111 : decode cX4_add 111 = .ok (.iconst 1, 1) := by decide +kernel
theorem dX4_add_112 : decode cX4_add 112 = .ok (.iadd, 1) := by decide +kernel
theorem dX4_add_113 : decode cX4_add 113 = .ok (.putfield 9, 3) := by decide +kernel
theorem dX4_add_116 : decode cX4_add 116 = .ok (.aload_n 0, 1) := by decide +kernel
theorem dX4_add_117 : decode cX4_add 117 = .ok (.dup, 1) := by decide +kernel
theorem dX4_add_118 : decode cX4_add 118 = .ok (.getfield 15, 3) := by decide +kernel
theorem dX4_add_121 : decode cX4_add 121 = .ok (.lload 7, 2) := by decide +kernel
theorem dX4_add_123 : decode cX4_add 123 = .ok (.ladd, 1) := by decide +kernel
theorem dX4_add_124 : decode cX4_add 124 = .ok (.putfield 15, 3) := by decide +kernel
theorem dX4_add_127 : decode cX4_add 127 = .ok (.return_, 1) := by decide +kernel
theorem dX4_collectOpen_0 : decode cX4_collectOpen 0 = .ok (.aload_n 0, 1) := by decide +kernel
theorem dX4_collectOpen_1 : decode cX4_collectOpen 1 = .ok (.iconst 0, 1) := by decide +kernel
theorem dX4_collectOpen_2 : decode cX4_collectOpen 2 = .ok (.invokevirtual 98, 3) := by decide +kernel
theorem dX4_collectOpen_5 : decode cX4_collectOpen 5 = .ok (.ifCond .ne 4, 3) := by decide +kernel
theorem dX4_collectOpen_8 : decode cX4_collectOpen 8 = .ok (.return_, 1) := by decide +kernel
theorem dX4_collectOpen_9 : decode cX4_collectOpen 9 = .ok (.iconst 0, 1) := by decide +kernel
theorem dX4_collectOpen_10 : decode cX4_collectOpen 10 = .ok (.istore_n 2, 1) := by decide +kernel
theorem dX4_collectOpen_11 : decode cX4_collectOpen 11 = .ok (.iload_n 2, 1) := by decide +kernel
theorem dX4_collectOpen_12 : decode cX4_collectOpen 12 = .ok (.iconst 4, 1) := by decide +kernel
theorem dX4_collectOpen_13 : decode cX4_collectOpen 13 = .ok (.if_icmp .ge 27, 3) := by decide +kernel
theorem dX4_collectOpen_16 : decode cX4_collectOpen 16 = .ok (.aload_n 0, 1) := by decide +kernel
theorem dX4_collectOpen_17 : decode cX4_collectOpen 17 = .ok (.iconst 0, 1) := by decide +kernel
theorem dX4_collectOpen_18 : decode cX4_collectOpen 18 = .ok (.iload_n 1, 1) := by decide +kernel
theorem dX4_collectOpen_19 : decode cX4_collectOpen 19 = .ok (.iload_n 2, 1) := by decide +kernel
theorem dX4_collectOpen_20 : decode cX4_collectOpen 20 = .ok (.bipush (-9), 2) := by decide +kernel
theorem dX4_collectOpen_22 : decode cX4_collectOpen 22 = .ok (.aload_n 0, 1) := by decide +kernel
theorem dX4_collectOpen_23 : decode cX4_collectOpen 23 = .ok (.getfield 37, 3) := by decide +kernel
theorem dX4_collectOpen_26 : decode cX4_collectOpen 26 = .ok (.iload_n 1, 1) := by decide +kernel
theorem dX4_collectOpen_27 : decode cX4_collectOpen 27 = .ok (.iload_n 2, 1) := by decide +kernel
theorem dX4_collectOpen_28 : decode cX4_collectOpen 28 = .ok (.invokevirtual 103, 3) := by decide +kernel
theorem dX4_collectOpen_31 : decode cX4_collectOpen 31 = .ok (.invokevirtual 107, 3) := by decide +kernel
theorem dX4_collectOpen_34 : decode cX4_collectOpen 34 = .ok (.iinc 2 1, 3) := by decide +kernel
theorem dX4_collectOpen_37 : decode cX4_collectOpen 37 = .ok (.goto (-26), 3) := by decide +kernel
theorem dX4_collectOpen_40 : decode cX4_collectOpen 40 = .ok (.return_, 1) := by decide +kernel
theorem dX4_collectPairs_0 : decode cX4_collectPairs 0 = .ok (.iconst 0, 1) := by decide +kernel
theorem dX4_collectPairs_1 : decode cX4_collectPairs 1 = .ok (.istore_n 2, 1) := by decide +kernel
theorem dX4_collectPairs_2 : decode cX4_collectPairs 2 = .ok (.iload_n 2, 1) := by decide +kernel
theorem dX4_collectPairs_3 : decode cX4_collectPairs 3 = .ok (.aload_n 1, 1) := by decide +kernel
theorem dX4_collectPairs_4 : decode cX4_collectPairs 4 = .ok (.getfield 67, 3) := by decide +kernel
theorem dX4_collectPairs_7 : decode cX4_collectPairs 7 = .ok (.if_icmp .ge 109, 3) := by decide +kernel
theorem dX4_collectPairs_10 : decode cX4_collectPairs 10 = .ok (.iload_n 2, 1) := by decide +kernel
theorem dX4_collectPairs_11 : decode cX4_collectPairs 11 = .ok (.iconst 1, 1) := by decide +kernel
theorem dX4_collectPairs_12 : decode cX4_collectPairs 12 = .ok (.iadd, 1) := by decide +kernel
theorem dX4_collectPairs_13 : decode cX4_collectPairs 13 = .ok (.istore_n 3, 1) := by decide +kernel
theorem dX4_collectPairs_14 : decode cX4_collectPairs 14 = .ok (.iload_n 3, 1) := by decide +kernel
theorem dX4_collectPairs_15 : decode cX4_collectPairs 15 = .ok (.aload_n 1, 1) := by decide +kernel
theorem dX4_collectPairs_16 : decode cX4_collectPairs 16 = .ok (.getfield 67, 3) := by decide +kernel
theorem dX4_collectPairs_19 : decode cX4_collectPairs 19 = .ok (.if_icmp .ge 91, 3) := by decide +kernel
theorem dX4_collectPairs_22 : decode cX4_collectPairs 22 = .ok (.aload_n 0, 1) := by decide +kernel
theorem dX4_collectPairs_23 : decode cX4_collectPairs 23 = .ok (.iconst 1, 1) := by decide +kernel
theorem dX4_collectPairs_24 : decode cX4_collectPairs 24 = .ok (.iload_n 2, 1) := by decide +kernel
theorem dX4_collectPairs_25 : decode cX4_collectPairs 25 = .ok (.bipush (-9), 2) := by decide +kernel
theorem dX4_collectPairs_27 : decode cX4_collectPairs 27 = .ok (.iload_n 3, 1) := by decide +kernel
theorem dX4_collectPairs_28 : decode cX4_collectPairs 28 = .ok (.aload_n 0, 1) := by decide +kernel
theorem dX4_collectPairs_29 : decode cX4_collectPairs 29 = .ok (.getfield 44, 3) := by decide +kernel
theorem dX4_collectPairs_32 : decode cX4_collectPairs 32 = .ok (.iload_n 2, 1) := by decide +kernel
theorem dX4_collectPairs_33 : decode cX4_collectPairs 33 = .ok (.iload_n 3, 1) := by decide +kernel
theorem dX4_collectPairs_34 : decode cX4_collectPairs 34 = .ok (.aload_n 0, 1) := by decide +kernel
theorem dX4_collectPairs_35 : decode cX4_collectPairs 35 = .ok (.iconst 0, 1) := by decide +kernel
theorem dX4_collectPairs_36 : decode cX4_collectPairs 36 = .ok (.invokevirtual 55, 3) := by decide +kernel
theorem dX4_collectPairs_39 : decode cX4_collectPairs 39 = .ok (.invokevirtual 111, 3) := by decide +kernel
theorem dX4_collectPairs_42 : decode cX4_collectPairs 42 = .ok (.invokevirtual 107, 3) := by decide +kernel
theorem dX4_collectPairs_45 : decode cX4_collectPairs 45 = .ok (.aload_n 1, 1) := by decide +kernel
theorem dX4_collectPairs_46 : decode cX4_collectPairs 46 = .ok (.iload_n 2, 1) := by decide +kernel
theorem dX4_collectPairs_47 : decode cX4_collectPairs 47 = .ok (.invokevirtual 72, 3) := by decide +kernel
theorem dX4_collectPairs_50 : decode cX4_collectPairs 50 = .ok (.getfield 115, 3) := by decide +kernel
theorem dX4_collectPairs_53 : decode cX4_collectPairs 53 = .ok (.iload_n 3, 1) := by decide +kernel
theorem dX4_collectPairs_54 : decode cX4_collectPairs 54 = .ok (.if_icmp .eq 15, 3) := by decide +kernel
theorem dX4_collectPairs_57 : decode cX4_collectPairs 57 = .ok (.aload_n 1, 1) := by decide +kernel
theorem dX4_collectPairs_58 : decode cX4_collectPairs 58 = .ok (.iload_n 3, 1) := by decide +kernel
theorem dX4_collectPairs_59 : decode cX4_collectPairs 59 = .ok (.invokevirtual 72, 3) := by decide +kernel
theorem dX4_collectPairs_62 : decode cX4_collectPairs 62 = .ok (.getfield 115, 3) := by decide +kernel
theorem dX4_collectPairs_65 : decode cX4_collectPairs 65 = .ok (.iload_n 2, 1) := by decide +kernel
theorem dX4_collectPairs_66 : decode cX4_collectPairs 66 = .ok (.if_icmp .ne 7, 3) := by decide +kernel
theorem dX4_collectPairs_69 : decode cX4_collectPairs 69 = .ok (.iconst 1, 1) := by decide +kernel
theorem dX4_collectPairs_70 : decode cX4_collectPairs 70 = .ok (.goto 4, 3) := by decide +kernel
theorem dX4_collectPairs_73 : decode cX4_collectPairs 73 = .ok (.iconst 0, 1) := by decide +kernel
theorem dX4_collectPairs_74 : decode cX4_collectPairs 74 = .ok (.istore 4, 2) := by decide +kernel
theorem dX4_collectPairs_76 : decode cX4_collectPairs 76 = .ok (.iload 4, 2) := by decide +kernel
theorem dX4_collectPairs_78 : decode cX4_collectPairs 78 = .ok (.ifCond .ne 26, 3) := by decide +kernel
theorem dX4_collectPairs_81 : decode cX4_collectPairs 81 = .ok (.aload_n 0, 1) := by decide +kernel
theorem dX4_collectPairs_82 : decode cX4_collectPairs 82 = .ok (.iconst 2, 1) := by decide +kernel
theorem dX4_collectPairs_83 : decode cX4_collectPairs 83 = .ok (.iload_n 2, 1) := by decide +kernel
theorem dX4_collectPairs_84 : decode cX4_collectPairs 84 = .ok (.bipush (-9), 2) := by decide +kernel
theorem dX4_collectPairs_86 : decode cX4_collectPairs 86 = .ok (.iload_n 3, 1) := by decide +kernel
theorem dX4_collectPairs_87 : decode cX4_collectPairs 87 = .ok (.aload_n 0, 1) := by decide +kernel
theorem dX4_collectPairs_88 : decode cX4_collectPairs 88 = .ok (.getfield 44, 3) := by decide +kernel
theorem dX4_collectPairs_91 : decode cX4_collectPairs 91 = .ok (.iload_n 2, 1) := by decide +kernel
theorem dX4_collectPairs_92 : decode cX4_collectPairs 92 = .ok (.iload_n 3, 1) := by decide +kernel
theorem dX4_collectPairs_93 : decode cX4_collectPairs 93 = .ok (.aload_n 0, 1) := by decide +kernel
theorem dX4_collectPairs_94 : decode cX4_collectPairs 94 = .ok (.iconst 0, 1) := by decide +kernel
theorem dX4_collectPairs_95 : decode cX4_collectPairs 95 = .ok (.invokevirtual 55, 3) := by decide +kernel
theorem dX4_collectPairs_98 : decode cX4_collectPairs 98 = .ok (.invokevirtual 118, 3) := by decide +kernel
theorem dX4_collectPairs_101 : decode cX4_collectPairs 101 = .ok (.invokevirtual 107, 3) := by decide +kernel
theorem dX4_collectPairs_104 : decode cX4_collectPairs 104 = .ok (.iinc 3 1, 3) := by decide +kernel
theorem dX4_collectPairs_107 : decode cX4_collectPairs 107 = .ok (.goto (-93), 3) := by decide +kernel
theorem dX4_collectPairs_110 : decode cX4_collectPairs 110 = .ok (.iinc 2 1, 3) := by decide +kernel
theorem dX4_collectPairs_113 : decode cX4_collectPairs 113 = .ok (.goto (-111), 3) := by decide +kernel
theorem dX4_collectPairs_116 : decode cX4_collectPairs 116 = .ok (.return_, 1) := by decide +kernel
theorem dX4_collectFlap_0 : decode cX4_collectFlap 0 = .ok (.aload_n 1, 1) := by decide +kernel
theorem dX4_collectFlap_1 : decode cX4_collectFlap 1 = .ok (.iload_n 2, 1) := by decide +kernel
theorem dX4_collectFlap_2 : decode cX4_collectFlap 2 = .ok (.invokevirtual 72, 3) := by decide +kernel
theorem dX4_collectFlap_5 : decode cX4_collectFlap 5 = .ok (.astore_n 3, 1) := by decide +kernel
theorem dX4_collectFlap_6 : decode cX4_collectFlap 6 = .ok (.aload_n 0, 1) := by decide +kernel
theorem dX4_collectFlap_7 : decode cX4_collectFlap 7 = .ok (.getfield 44, 3) := by decide +kernel
theorem dX4_collectFlap_10 : decode cX4_collectFlap 10 = .ok (.aload_n 1, 1) := by decide +kernel
theorem dX4_collectFlap_11 : decode cX4_collectFlap 11 = .ok (.iload_n 2, 1) := by decide +kernel
theorem dX4_collectFlap_12 : decode cX4_collectFlap 12 = .ok (.aload_n 0, 1) := by decide +kernel
theorem dX4_collectFlap_13 : decode cX4_collectFlap 13 = .ok (.iconst 0, 1) := by decide +kernel
theorem dX4_collectFlap_14 : decode cX4_collectFlap 14 = .ok (.invokevirtual 55, 3) := by decide +kernel
theorem dX4_collectFlap_17 : decode cX4_collectFlap 17 = .ok (.invokevirtual 121, 3) := by decide +kernel
theorem dX4_collectFlap_20 : decode cX4_collectFlap 20 = .ok (.istore 4, 2) := by decide +kernel
theorem dX4_collectFlap_22 : decode cX4_collectFlap 22 = .ok (.aload_n 0, 1) := by decide +kernel
theorem dX4_collectFlap_23 : decode cX4_collectFlap 23 = .ok (.iconst 3, 1) := by decide +kernel
theorem dX4_collectFlap_24 : decode cX4_collectFlap 24 = .ok (.iload_n 2, 1) := by decide +kernel
theorem dX4_collectFlap_25 : decode cX4_collectFlap 25 = .ok (.bipush (-9), 2) := by decide +kernel
theorem dX4_collectFlap_27 : decode cX4_collectFlap 27 = .ok (.aload_n 3, 1) := by decide +kernel
theorem dX4_collectFlap_28 : decode cX4_collectFlap 28 = .ok (.getfield 115, 3) := by decide +kernel
theorem dX4_collectFlap_31 : decode cX4_collectFlap 31 = .ok (.aload_n 0, 1) := by decide +kernel
theorem dX4_collectFlap_32 : decode cX4_collectFlap 32 = .ok (.iconst 3, 1) := by decide +kernel
theorem dX4_collectFlap_33 : decode cX4_collectFlap 33 = .ok (.invokevirtual 55, 3) := by decide +kernel
theorem dX4_collectFlap_36 : decode cX4_collectFlap 36 = .ok (.iload 4, 2) := by decide +kernel
theorem dX4_collectFlap_38 : decode cX4_collectFlap 38 = .ok (.isub, 1) := by decide +kernel
theorem dX4_collectFlap_39 : decode cX4_collectFlap 39 = .ok (.invokevirtual 107, 3) := by decide +kernel
theorem dX4_collectFlap_42 : decode cX4_collectFlap 42 = .ok (.aload_n 1, 1) := by decide +kernel
theorem dX4_collectFlap_43 : decode cX4_collectFlap 43 = .ok (.aload_n 3, 1) := by decide +kernel
theorem dX4_collectFlap_44 : decode cX4_collectFlap 44 = .ok (.invokestatic 88, 3) := by decide +kernel
theorem dX4_collectFlap_47 : decode cX4_collectFlap 47 = .ok (.ifCond .eq 25, 3) := by decide +kernel
theorem dX4_collectFlap_50 : decode cX4_collectFlap 50 = .ok (.aload_n 0, 1) := by decide +kernel
theorem dX4_collectFlap_51 : decode cX4_collectFlap 51 = .ok (.bipush 6, 2) := by decide +kernel
theorem dX4_collectFlap_53 : decode cX4_collectFlap 53 = .ok (.iload_n 2, 1) := by decide +kernel
theorem dX4_collectFlap_54 : decode cX4_collectFlap 54 = .ok (.bipush (-9), 2) := by decide +kernel
theorem dX4_collectFlap_56 : decode cX4_collectFlap 56 = .ok (.bipush (-9), 2) := by decide +kernel
theorem dX4_collectFlap_58 : decode cX4_collectFlap 58 = .ok (.aload_n 1, 1) := by decide +kernel
theorem dX4_collectFlap_59 : decode cX4_collectFlap 59 = .ok (.aload_n 3, 1) := by decide +kernel
theorem dX4_collectFlap_60 : decode cX4_collectFlap 60 = .ok (.invokestatic 125, 3) := by decide +kernel
theorem dX4_collectFlap_63 : decode cX4_collectFlap 63 = .ok (.aload_n 0, 1) := by decide +kernel
theorem dX4_collectFlap_64 : decode cX4_collectFlap 64 = .ok (.iconst 2, 1) := by decide +kernel
theorem dX4_collectFlap_65 : decode cX4_collectFlap 65 = .ok (.invokevirtual 55, 3) := by decide +kernel
theorem dX4_collectFlap_68 : decode cX4_collectFlap 68 = .ok (.isub, 1) := by decide +kernel
theorem dX4_collectFlap_69 : decode cX4_collectFlap 69 = .ok (.invokevirtual 107, 3) := by decide +kernel
theorem dX4_collectFlap_72 : decode cX4_collectFlap 72 = .ok (.return_, 1) := by decide +kernel
theorem dX4_inkDistance_0 : decode cX4_inkDistance 0 = .ok (.aload_n 1, 1) := by decide +kernel
theorem dX4_inkDistance_1 : decode cX4_inkDistance 1 = .ok (.invokevirtual 129, 3) := by decide +kernel
theorem dX4_inkDistance_4 : decode cX4_inkDistance 4 = .ok (.tableswitch 69 0 2 #[28, 41, 55], 28) := by decide +kernel
theorem dX4_inkDistance_32 : decode cX4_inkDistance 32 = .ok (.aload_n 1, 1) := by decide +kernel
theorem dX4_inkDistance_33 : decode cX4_inkDistance 33 = .ok (.getfield 133, 3) := by decide +kernel
theorem dX4_inkDistance_36 : decode cX4_inkDistance 36 = .ok (.aload_n 0, 1) := by decide +kernel
theorem dX4_inkDistance_37 : decode cX4_inkDistance 37 = .ok (.aload_n 1, 1) := by decide +kernel
theorem dX4_inkDistance_38 : decode cX4_inkDistance 38 = .ok (.invokestatic 136, 3) := by decide +kernel
theorem dX4_inkDistance_41 : decode cX4_inkDistance 41 = .ok (.invokestatic 139, 3) := by decide +kernel
theorem dX4_inkDistance_44 : decode cX4_inkDistance 44 = .ok (.ireturn, 1) := by decide +kernel
theorem dX4_inkDistance_45 : decode cX4_inkDistance 45 = .ok (.aload_n 1, 1) := by decide +kernel
theorem dX4_inkDistance_46 : decode cX4_inkDistance 46 = .ok (.getfield 144, 3) := by decide +kernel
theorem dX4_inkDistance_49 : decode cX4_inkDistance 49 = .ok (.iconst 0, 1) := by decide +kernel
theorem dX4_inkDistance_50 : decode cX4_inkDistance 50 = .ok (.aload_n 1, 1) := by decide +kernel
theorem dX4_inkDistance_51 : decode cX4_inkDistance 51 = .ok (.getfield 147, 3) := by decide +kernel
theorem dX4_inkDistance_54 : decode cX4_inkDistance 54 = .ok (.invokestatic 150, 3) := by decide +kernel
theorem dX4_inkDistance_57 : decode cX4_inkDistance 57 = .ok (.isub, 1) := by decide +kernel
theorem dX4_inkDistance_58 : decode cX4_inkDistance 58 = .ok (.ireturn, 1) := by decide +kernel
theorem dX4_inkDistance_59 : decode cX4_inkDistance 59 = .ok (.aload_n 1, 1) := by decide +kernel
theorem dX4_inkDistance_60 : decode cX4_inkDistance 60 = .ok (.getfield 133, 3) := by decide +kernel
theorem dX4_inkDistance_63 : decode cX4_inkDistance 63 = .ok (.iconst 0, 1) := by decide +kernel
theorem dX4_inkDistance_64 : decode cX4_inkDistance 64 = .ok (.aload_n 1, 1) := by decide +kernel
theorem dX4_inkDistance_65 : decode cX4_inkDistance 65 = .ok (.getfield 153, 3) := by decide +kernel
theorem dX4_inkDistance_68 : decode cX4_inkDistance 68 = .ok (.invokestatic 150, 3) := by decide +kernel
theorem dX4_inkDistance_71 : decode cX4_inkDistance 71 = .ok (.isub, 1) := by decide +kernel
theorem dX4_inkDistance_72 : decode cX4_inkDistance 72 = .ok (.ireturn, 1) := by decide +kernel
theorem dX4_inkDistance_73 : decode cX4_inkDistance 73 = .ok (.aload_n 1, 1) := by decide +kernel
theorem dX4_inkDistance_74 : decode cX4_inkDistance 74 = .ok (.getfield 144, 3) := by decide +kernel
theorem dX4_inkDistance_77 : decode cX4_inkDistance 77 = .ok (.aload_n 0, 1) := by decide +kernel
theorem dX4_inkDistance_78 : decode cX4_inkDistance 78 = .ok (.aload_n 1, 1) := by decide +kernel
theorem dX4_inkDistance_79 : decode cX4_inkDistance 79 = .ok (.invokestatic 156, 3) := by decide +kernel
theorem dX4_inkDistance_82 : decode cX4_inkDistance 82 = .ok (.invokestatic 139, 3) := by decide +kernel
theorem dX4_inkDistance_85 : decode cX4_inkDistance 85 = .ok (.ireturn, 1) := by decide +kernel
theorem dX4_collectPrint_0 : decode cX4_collectPrint 0 = .ok (.aload_n 1, 1) := by decide +kernel
theorem dX4_collectPrint_1 : decode cX4_collectPrint 1 = .ok (.iload_n 2, 1) := by decide +kernel
theorem dX4_collectPrint_2 : decode cX4_collectPrint 2 = .ok (.invokevirtual 72, 3) := by decide +kernel
theorem dX4_collectPrint_5 : decode cX4_collectPrint 5 = .ok (.astore_n 3, 1) := by decide +kernel
theorem dX4_collectPrint_6 : decode cX4_collectPrint 6 = .ok (.iconst 0, 1) := by decide +kernel
theorem dX4_collectPrint_7 : decode cX4_collectPrint 7 = .ok (.istore 4, 2) := by decide +kernel
theorem dX4_collectPrint_9 : decode cX4_collectPrint 9 = .ok (.iload 4, 2) := by decide +kernel
theorem dX4_collectPrint_11 : decode cX4_collectPrint 11 = .ok (.iconst 4, 1) := by decide +kernel
theorem dX4_collectPrint_12 : decode cX4_collectPrint 12 = .ok (.if_icmp .ge 106, 3) := by decide +kernel
theorem dX4_collectPrint_15 : decode cX4_collectPrint 15 = .ok (.aload_n 1, 1) := by decide +kernel
theorem dX4_collectPrint_16 : decode cX4_collectPrint 16 = .ok (.aload_n 3, 1) := by decide +kernel
theorem dX4_collectPrint_17 : decode cX4_collectPrint 17 = .ok (.iload 4, 2) := by decide +kernel
theorem dX4_collectPrint_19 : decode cX4_collectPrint 19 = .ok (.invokestatic 159, 3) := by decide +kernel
theorem dX4_collectPrint_22 : decode cX4_collectPrint 22 = .ok (.istore 5, 2) := by decide +kernel
theorem dX4_collectPrint_24 : decode cX4_collectPrint 24 = .ok (.iload 5, 2) := by decide +kernel
theorem dX4_collectPrint_26 : decode cX4_collectPrint 26 = .ok (.bipush (-9), 2) := by decide +kernel
theorem dX4_collectPrint_28 : decode cX4_collectPrint 28 = .ok (.if_icmp .eq 38, 3) := by decide +kernel
theorem dX4_collectPrint_31 : decode cX4_collectPrint 31 = .ok (.aload_n 3, 1) := by decide +kernel
theorem dX4_collectPrint_32 : decode cX4_collectPrint 32 = .ok (.invokevirtual 76, 3) := by decide +kernel
theorem dX4_collectPrint_35 : decode cX4_collectPrint 35 = .ok (.ifCond .ne 31, 3) := by decide +kernel
theorem dX4_collectPrint_38 : decode cX4_collectPrint 38 = .ok (.aload_n 1, 1) := by decide +kernel
theorem dX4_collectPrint_39 : decode cX4_collectPrint 39 = .ok (.iload_n 2, 1) := by decide +kernel
theorem dX4_collectPrint_40 : decode cX4_collectPrint 40 = .ok (.iload 4, 2) := by decide +kernel
theorem dX4_collectPrint_42 : decode cX4_collectPrint 42 = .ok (.invokevirtual 163, 3) := by decide +kernel
theorem dX4_collectPrint_45 : decode cX4_collectPrint 45 = .ok (.ifCond .ne 21, 3) := by decide +kernel
theorem dX4_collectPrint_48 : decode cX4_collectPrint 48 = .ok (.aload_n 0, 1) := by decide +kernel
theorem dX4_collectPrint_49 : decode cX4_collectPrint 49 = .ok (.iconst 4, 1) := by decide +kernel
theorem dX4_collectPrint_50 : decode cX4_collectPrint 50 = .ok (.iload_n 2, 1) := by decide +kernel
theorem dX4_collectPrint_51 : decode cX4_collectPrint 51 = .ok (.iload 4, 2) := by decide +kernel
theorem dX4_collectPrint_53 : decode cX4_collectPrint 53 = .ok (.bipush (-9), 2) := by decide +kernel
theorem dX4_collectPrint_55 : decode cX4_collectPrint 55 = .ok (.aload_n 0, 1) := by decide +kernel
theorem dX4_collectPrint_56 : decode cX4_collectPrint 56 = .ok (.iconst 1, 1) := by decide +kernel
theorem dX4_collectPrint_57 : decode cX4_collectPrint 57 = .ok (.invokevirtual 55, 3) := by decide +kernel
theorem dX4_collectPrint_60 : decode cX4_collectPrint 60 = .ok (.iload 5, 2) := by decide +kernel
theorem dX4_collectPrint_62 : decode cX4_collectPrint 62 = .ok (.isub, 1) := by decide +kernel
theorem dX4_collectPrint_63 : decode cX4_collectPrint 63 = .ok (.invokevirtual 107, 3) := by decide +kernel
theorem dX4_collectPrint_66 : decode cX4_collectPrint 66 = .ok (.iload 5, 2) := by decide +kernel
theorem dX4_collectPrint_68 : decode cX4_collectPrint 68 = .ok (.aload_n 0, 1) := by decide +kernel
theorem dX4_collectPrint_69 : decode cX4_collectPrint 69 = .ok (.iconst 1, 1) := by decide +kernel
theorem dX4_collectPrint_70 : decode cX4_collectPrint 70 = .ok (.invokevirtual 55, 3) := by decide +kernel
theorem dX4_collectPrint_73 : decode cX4_collectPrint 73 = .ok (.invokestatic 139, 3) := by decide +kernel
theorem dX4_collectPrint_76 : decode cX4_collectPrint 76 = .ok (.istore 6, 2) := by decide +kernel
theorem dX4_collectPrint_78 : decode cX4_collectPrint 78 = .ok (.iload 6, 2) := by decide +kernel
theorem dX4_collectPrint_80 : decode cX4_collectPrint 80 = .ok (.ifCond .le 32, 3) := by decide +kernel
theorem dX4_collectPrint_83 : decode cX4_collectPrint 83 = .ok (.aload_n 0, 1) := by decide +kernel
theorem dX4_collectPrint_84 : decode cX4_collectPrint 84 = .ok (.iconst 5, 1) := by decide +kernel
theorem dX4_collectPrint_85 : decode cX4_collectPrint 85 = .ok (.iload_n 2, 1) := by decide +kernel
theorem dX4_collectPrint_86 : decode cX4_collectPrint 86 = .ok (.iload 4, 2) := by decide +kernel
theorem dX4_collectPrint_88 : decode cX4_collectPrint 88 = .ok (.bipush (-9), 2) := by decide +kernel
theorem dX4_collectPrint_90 : decode cX4_collectPrint 90 = .ok (.aload_n 1, 1) := by decide +kernel
theorem dX4_collectPrint_91 : decode cX4_collectPrint 91 = .ok (.aload_n 3, 1) := by decide +kernel
theorem dX4_collectPrint_92 : decode cX4_collectPrint 92 = .ok (.iload 4, 2) := by decide +kernel
theorem dX4_collectPrint_94 : decode cX4_collectPrint 94 = .ok (.iload 6, 2) := by decide +kernel
theorem dX4_collectPrint_96 : decode cX4_collectPrint 96 = .ok (.invokestatic 167, 3) := by decide +kernel
theorem dX4_collectPrint_99 : decode cX4_collectPrint 99 = .ok (.invokevirtual 107, 3) := by decide +kernel
theorem dX4_collectPrint_102 : decode cX4_collectPrint 102 = .ok (.aload_n 0, 1) := by decide +kernel
theorem dX4_collectPrint_103 : decode cX4_collectPrint 103 = .ok (.aload_n 1, 1) := by decide +kernel
theorem dX4_collectPrint_104 : decode cX4_collectPrint 104 = .ok (.iload_n 2, 1) := by decide +kernel
theorem dX4_collectPrint_105 : decode cX4_collectPrint 105 = .ok (.iload 4, 2) := by decide +kernel
theorem dX4_collectPrint_107 : decode cX4_collectPrint 107 = .ok (.iload 6, 2) := by decide +kernel
theorem dX4_collectPrint_109 : decode cX4_collectPrint 109 = .ok (.invokevirtual 171, 3) := by decide +kernel
theorem dX4_collectPrint_112 : decode cX4_collectPrint 112 = .ok (.iinc 4 1, 3) := by decide +kernel
theorem dX4_collectPrint_115 : decode cX4_collectPrint 115 = .ok (.goto (-106), 3) := by decide +kernel
theorem dX4_collectPrint_118 : decode cX4_collectPrint 118 = .ok (.return_, 1) := by decide +kernel
theorem dX4_beyondSheet_0 : decode cX4_beyondSheet 0 = .ok (.iload_n 2, 1) := by decide +kernel
theorem dX4_beyondSheet_1 : decode cX4_beyondSheet 1 = .ok (.tableswitch 68 0 2 #[27, 34, 51], 27) := by decide +kernel
theorem dX4_beyondSheet_28 : decode cX4_beyondSheet 28 = .ok (.iload_n 3, 1) := by decide +kernel
theorem dX4_beyondSheet_29 : decode cX4_beyondSheet 29 = .ok (.aload_n 1, 1) := by decide +kernel
theorem dX4_beyondSheet_30 : decode cX4_beyondSheet 30 = .ok (.getfield 175, 3) := by decide +kernel
theorem dX4_beyondSheet_33 : decode cX4_beyondSheet 33 = .ok (.isub, 1) := by decide +kernel
theorem dX4_beyondSheet_34 : decode cX4_beyondSheet 34 = .ok (.ireturn, 1) := by decide +kernel
theorem dX4_beyondSheet_35 : decode cX4_beyondSheet 35 = .ok (.aload_n 1, 1) := by decide +kernel
theorem dX4_beyondSheet_36 : decode cX4_beyondSheet 36 = .ok (.getfield 178, 3) := by decide +kernel
theorem dX4_beyondSheet_39 : decode cX4_beyondSheet 39 = .ok (.aload_n 1, 1) := by decide +kernel
theorem dX4_beyondSheet_40 : decode cX4_beyondSheet 40 = .ok (.getfield 144, 3) := by decide +kernel
theorem dX4_beyondSheet_43 : decode cX4_beyondSheet 43 = .ok (.iadd, 1) := by decide +kernel
theorem dX4_beyondSheet_44 : decode cX4_beyondSheet 44 = .ok (.iload_n 3, 1) := by decide +kernel
theorem dX4_beyondSheet_45 : decode cX4_beyondSheet 45 = .ok (.iadd, 1) := by decide +kernel
theorem dX4_beyondSheet_46 : decode cX4_beyondSheet 46 = .ok (.aload_n 0, 1) := by decide +kernel
theorem dX4_beyondSheet_47 : decode cX4_beyondSheet 47 = .ok (.getfield 181, 3) := by decide +kernel
theorem dX4_beyondSheet_50 : decode cX4_beyondSheet 50 = .ok (.isub, 1) := by decide +kernel
theorem dX4_beyondSheet_51 : decode cX4_beyondSheet 51 = .ok (.ireturn, 1) := by decide +kernel
theorem dX4_beyondSheet_52 : decode cX4_beyondSheet 52 = .ok (.aload_n 1, 1) := by decide +kernel
theorem dX4_beyondSheet_53 : decode cX4_beyondSheet 53 = .ok (.getfield 175, 3) := by decide +kernel
theorem dX4_beyondSheet_56 : decode cX4_beyondSheet 56 = .ok (.aload_n 1, 1) := by decide +kernel
theorem dX4_beyondSheet_57 : decode cX4_beyondSheet 57 = .ok (.getfield 133, 3) := by decide +kernel
theorem dX4_beyondSheet_60 : decode cX4_beyondSheet 60 = .ok (.iadd, 1) := by decide +kernel
theorem dX4_beyondSheet_61 : decode cX4_beyondSheet 61 = .ok (.iload_n 3, 1) := by decide +kernel
theorem dX4_beyondSheet_62 : decode cX4_beyondSheet 62 = .ok (.iadd, 1) := by decide +kernel
theorem dX4_beyondSheet_63 : decode cX4_beyondSheet 63 = .ok (.aload_n 0, 1) := by decide +kernel
theorem dX4_beyondSheet_64 : decode cX4_beyondSheet 64 = .ok (.getfield 184, 3) := by decide +kernel
theorem dX4_beyondSheet_67 : decode cX4_beyondSheet 67 = .ok (.isub, 1) := by decide +kernel
theorem dX4_beyondSheet_68 : decode cX4_beyondSheet 68 = .ok (.ireturn, 1) := by decide +kernel
theorem dX4_beyondSheet_69 : decode cX4_beyondSheet 69 = .ok (.iload_n 3, 1) := by decide +kernel
theorem dX4_beyondSheet_70 : decode cX4_beyondSheet 70 = .ok (.aload_n 1, 1) := by decide +kernel
theorem dX4_beyondSheet_71 : decode cX4_beyondSheet 71 = .ok (.getfield 178, 3) := by decide +kernel
theorem dX4_beyondSheet_74 : decode cX4_beyondSheet 74 = .ok (.isub, 1) := by decide +kernel
theorem dX4_beyondSheet_75 : decode cX4_beyondSheet 75 = .ok (.ireturn, 1) := by decide +kernel
theorem dX4_collectIntrusions_0 : decode cX4_collectIntrusions 0 = .ok (.aload_n 1, 1) := by decide +kernel
theorem dX4_collectIntrusions_1 : decode cX4_collectIntrusions 1 = .ok (.iload_n 2, 1) := by decide +kernel
theorem dX4_collectIntrusions_2 : decode cX4_collectIntrusions 2 = .ok (.invokevirtual 72, 3) := by decide +kernel
theorem dX4_collectIntrusions_5 : decode cX4_collectIntrusions 5 = .ok (.astore 5, 2) := by decide +kernel
theorem dX4_collectIntrusions_7 : decode cX4_collectIntrusions 7 = .ok (.iload_n 3, 1) := by decide +kernel
theorem dX4_collectIntrusions_8 : decode cX4_collectIntrusions 8 = .ok (.iconst 1, 1) := by decide +kernel
theorem dX4_collectIntrusions_9 : decode cX4_collectIntrusions 9 = .ok (.iand, 1) := by decide +kernel
theorem dX4_collectIntrusions_10 : decode cX4_collectIntrusions 10 = .ok (.ifCond .ne 7, 3) := by decide +kernel
theorem dX4_collectIntrusions_13 : decode cX4_collectIntrusions 13 = .ok (.iconst 1, 1) := by decide +kernel
theorem dX4_collectIntrusions_14 : decode cX4_collectIntrusions 14 = .ok (.goto 4, 3) := by decide +kernel
theorem dX4_collectIntrusions_17 : decode cX4_collectIntrusions 17 = .ok (.iconst 0, 1) := by decide +kernel
theorem dX4_collectIntrusions_18 : decode cX4_collectIntrusions 18 = .ok (.istore 6, 2) := by decide +kernel
theorem dX4_collectIntrusions_20 : decode cX4_collectIntrusions 20 = .ok (.iload 6, 2) := by decide +kernel
theorem dX4_collectIntrusions_22 : decode cX4_collectIntrusions 22 = .ok (.ifCond .eq 7, 3) := by decide +kernel
theorem dX4_collectIntrusions_25 : decode cX4_collectIntrusions 25 = .ok (.iconst 0, 1) := by decide +kernel
theorem dX4_collectIntrusions_26 : decode cX4_collectIntrusions 26 = .ok (.goto 4, 3) := by decide +kernel
theorem dX4_collectIntrusions_29 : decode cX4_collectIntrusions 29 = .ok (.iconst 1, 1) := by decide +kernel
theorem dX4_collectIntrusions_30 : decode cX4_collectIntrusions 30 = .ok (.istore 7, 2) := by decide +kernel
theorem dX4_collectIntrusions_32 : decode cX4_collectIntrusions 32 = .ok (.iconst 1, 1) := by decide +kernel
theorem dX4_collectIntrusions_33 : decode cX4_collectIntrusions 33 = .ok (.iload 7, 2) := by decide +kernel
theorem dX4_collectIntrusions_35 : decode cX4_collectIntrusions 35 = .ok (.isub, 1) := by decide +kernel
theorem dX4_collectIntrusions_36 : decode cX4_collectIntrusions 36 = .ok (.istore 8, 2) := by decide +kernel
theorem dX4_collectIntrusions_38 : decode cX4_collectIntrusions 38 = .ok (.iload 6, 2) := by decide +kernel
theorem dX4_collectIntrusions_40 : decode cX4_collectIntrusions 40 = .ok (.ifCond .eq 15, 3) := by decide +kernel
theorem dX4_collectIntrusions_43 : decode cX4_collectIntrusions 43 = .ok (.iconst 0, 1) := by decide +kernel
theorem dX4_collectIntrusions_44 : decode cX4_collectIntrusions 44 = .ok (.aload 5, 2) := by decide +kernel
theorem dX4_collectIntrusions_46 : decode cX4_collectIntrusions 46 = .ok (.getfield 147, 3) := by decide +kernel
theorem dX4_collectIntrusions_49 : decode cX4_collectIntrusions 49 = .ok (.invokestatic 150, 3) := by decide +kernel
theorem dX4_collectIntrusions_52 : decode cX4_collectIntrusions 52 = .ok (.goto 12, 3) := by decide +kernel
theorem dX4_collectIntrusions_55 : decode cX4_collectIntrusions 55 = .ok (.iconst 0, 1) := by decide +kernel
theorem dX4_collectIntrusions_56 : decode cX4_collectIntrusions 56 = .ok (.aload 5, 2) := by decide +kernel
theorem dX4_collectIntrusions_58 : decode cX4_collectIntrusions 58 = .ok (.getfield 153, 3) := by decide +kernel
theorem dX4_collectIntrusions_61 : decode cX4_collectIntrusions 61 = .ok (.invokestatic 150, 3) := by decide +kernel
theorem dX4_collectIntrusions_64 : decode cX4_collectIntrusions 64 = .ok (.istore 9, 2) := by decide +kernel
theorem dX4_collectIntrusions_66 : decode cX4_collectIntrusions 66 = .ok (.iload 6, 2) := by decide +kernel
theorem dX4_collectIntrusions_68 : decode cX4_collectIntrusions 68 = .ok (.ifCond .eq 20, 3) := by decide +kernel
theorem dX4_collectIntrusions_71 : decode cX4_collectIntrusions 71 = .ok (.aload 5, 2) := by decide +kernel
theorem dX4_collectIntrusions_73 : decode cX4_collectIntrusions 73 = .ok (.getfield 144, 3) := by decide +kernel
theorem dX4_collectIntrusions_76 : decode cX4_collectIntrusions 76 = .ok (.aload_n 1, 1) := by decide +kernel
theorem dX4_collectIntrusions_77 : decode cX4_collectIntrusions 77 = .ok (.aload 5, 2) := by decide +kernel
theorem dX4_collectIntrusions_79 : decode cX4_collectIntrusions 79 = .ok (.invokestatic 156, 3) := by decide +kernel
theorem dX4_collectIntrusions_82 : decode cX4_collectIntrusions 82 = .ok (.invokestatic 139, 3) := by decide +kernel
theorem dX4_collectIntrusions_85 : decode cX4_collectIntrusions 85 = .ok (.goto 17, 3) := by decide +kernel
theorem dX4_collectIntrusions_88 : decode cX4_collectIntrusions 88 = .ok (.aload 5, 2) := by decide +kernel
theorem dX4_collectIntrusions_90 : decode cX4_collectIntrusions 90 = .ok (.getfield 133, 3) := by decide +kernel
theorem dX4_collectIntrusions_93 : decode cX4_collectIntrusions 93 = .ok (.aload_n 1, 1) := by decide +kernel
theorem dX4_collectIntrusions_94 : decode cX4_collectIntrusions 94 = .ok (.aload 5, 2) := by decide +kernel
theorem dX4_collectIntrusions_96 : decode cX4_collectIntrusions 96 = .ok (.invokestatic 136, 3) := by decide +kernel
theorem dX4_collectIntrusions_99 : decode cX4_collectIntrusions 99 = .ok (.invokestatic 139, 3) := by decide +kernel
theorem dX4_collectIntrusions_102 : decode cX4_collectIntrusions 102 = .ok (.istore 10, 2) := by decide +kernel
theorem dX4_collectIntrusions_104 : decode cX4_collectIntrusions 104 = .ok (.iload_n 3, 1) := by decide +kernel
theorem dX4_collectIntrusions_105 : decode cX4_collectIntrusions 105 = .ok (.ifCond .eq 8, 3) := by decide +kernel
theorem dX4_collectIntrusions_108 : decode cX4_collectIntrusions 108 = .ok (.iload_n 3, 1) := by decide +kernel
theorem dX4_collectIntrusions_109 : decode cX4_collectIntrusions 109 = .ok (.iconst 3, 1) := by decide +kernel
theorem dX4_collectIntrusions_110 : decode cX4_collectIntrusions 110 = .ok (.if_icmp .ne 7, 3) := by decide +kernel
theorem dX4_collectIntrusions_113 : decode cX4_collectIntrusions 113 = .ok (.iconst 1, 1) := by decide +kernel
theorem dX4_collectIntrusions_114 : decode cX4_collectIntrusions 114 = .ok (.goto 4, 3) := by decide +kernel
theorem dX4_collectIntrusions_117 : decode cX4_collectIntrusions 117 = .ok (.iconst 0, 1) := by decide +kernel
theorem dX4_collectIntrusions_118 : decode cX4_collectIntrusions 118 = .ok (.istore 11, 2) := by decide +kernel
theorem dX4_collectIntrusions_120 : decode cX4_collectIntrusions 120 = .ok (.iload 11, 2) := by decide +kernel
theorem dX4_collectIntrusions_122 : decode cX4_collectIntrusions 122 = .ok (.ifCond .eq 16, 3) := by decide +kernel
theorem dX4_collectIntrusions_125 : decode cX4_collectIntrusions 125 = .ok (.aload 5, 2) := by decide +kernel
theorem dX4_collectIntrusions_127 : decode cX4_collectIntrusions 127 = .ok (.iload 8, 2) := by decide +kernel
theorem dX4_collectIntrusions_129 : decode cX4_collectIntrusions 129 = .ok (.invokevirtual 187, 3) := by decide +kernel
theorem dX4_collectIntrusions_132 : decode cX4_collectIntrusions 132 = .ok (.iload 4, 2) := by decide +kernel
theorem dX4_collectIntrusions_134 : decode cX4_collectIntrusions 134 = .ok (.isub, 1) := by decide +kernel
theorem dX4_collectIntrusions_135 : decode cX4_collectIntrusions 135 = .ok (.goto 10, 3) := by decide +kernel
theorem dX4_collectIntrusions_138 : decode cX4_collectIntrusions 138 = .ok (.aload 5, 2) := by decide +kernel
theorem dX4_collectIntrusions_140 : decode cX4_collectIntrusions 140 = .ok (.iload 8, 2) := by decide +kernel
theorem dX4_collectIntrusions_142 : decode cX4_collectIntrusions 142 = .ok (.invokevirtual 190, 3) := by decide +kernel
theorem dX4_collectIntrusions_145 : decode cX4_collectIntrusions 145 = .ok (.istore 12, 2) := by decide +kernel
theorem dX4_collectIntrusions_147 : decode cX4_collectIntrusions 147 = .ok (.iconst 0, 1) := by decide +kernel
theorem dX4_collectIntrusions_148 : decode cX4_collectIntrusions 148 = .ok (.istore 13, 2) := by decide +kernel
theorem dX4_collectIntrusions_150 : decode cX4_collectIntrusions 150 = .ok (.iload 13, 2) := by decide +kernel
theorem dX4_collectIntrusions_152 : decode cX4_collectIntrusions 152 = .ok (.aload_n 1, 1) := by decide +kernel
theorem dX4_collectIntrusions_153 : decode cX4_collectIntrusions 153 = .ok (.getfield 67, 3) := by decide +kernel
theorem dX4_collectIntrusions_156 : decode cX4_collectIntrusions 156 = .ok (.if_icmp .ge 145, 3) := by decide +kernel
theorem dX4_collectIntrusions_159 : decode cX4_collectIntrusions 159 = .ok (.aload_n 1, 1) := by decide +kernel
theorem dX4_collectIntrusions_160 : decode cX4_collectIntrusions 160 = .ok (.iload 13, 2) := by decide +kernel
theorem dX4_collectIntrusions_162 : decode cX4_collectIntrusions 162 = .ok (.invokevirtual 72, 3) := by decide +kernel
theorem dX4_collectIntrusions_165 : decode cX4_collectIntrusions 165 = .ok (.astore 14, 2) := by decide +kernel
theorem dX4_collectIntrusions_167 : decode cX4_collectIntrusions 167 = .ok (.aload 14, 2) := by decide +kernel
theorem dX4_collectIntrusions_169 : decode cX4_collectIntrusions 169 = .ok (.iload_n 2, 1) := by decide +kernel
theorem dX4_collectIntrusions_170 : decode cX4_collectIntrusions 170 = .ok (.iload_n 3, 1) := by decide +kernel
theorem dX4_collectIntrusions_171 : decode cX4_collectIntrusions 171 = .ok (.invokevirtual 193, 3) := by decide +kernel
theorem dX4_collectIntrusions_174 : decode cX4_collectIntrusions 174 = .ok (.ifCond .ne 22, 3) := by decide +kernel
theorem dX4_collectIntrusions_177 : decode cX4_collectIntrusions 177 = .ok (.aload 5, 2) := by decide +kernel
theorem dX4_collectIntrusions_179 : decode cX4_collectIntrusions 179 = .ok (.getfield 196, 3) := by decide +kernel
theorem dX4_collectIntrusions_182 : decode cX4_collectIntrusions 182 = .ok (.iload 13, 2) := by decide +kernel
theorem dX4_collectIntrusions_184 : decode cX4_collectIntrusions 184 = .ok (.if_icmp .ne 16, 3) := by decide +kernel
theorem dX4_collectIntrusions_187 : decode cX4_collectIntrusions 187 = .ok (.aload 5, 2) := by decide +kernel
theorem dX4_collectIntrusions_189 : decode cX4_collectIntrusions 189 = .ok (.invokevirtual 129, 3) := by decide +kernel
theorem dX4_collectIntrusions_192 : decode cX4_collectIntrusions 192 = .ok (.iload_n 3, 1) := by decide +kernel
theorem dX4_collectIntrusions_193 : decode cX4_collectIntrusions 193 = .ok (.if_icmp .ne 7, 3) := by decide +kernel
theorem dX4_collectIntrusions_196 : decode cX4_collectIntrusions 196 = .ok (.iconst 1, 1) := by decide +kernel
theorem dX4_collectIntrusions_197 : decode cX4_collectIntrusions 197 = .ok (.goto 4, 3) := by decide +kernel
theorem dX4_collectIntrusions_200 : decode cX4_collectIntrusions 200 = .ok (.iconst 0, 1) := by decide +kernel
theorem dX4_collectIntrusions_201 : decode cX4_collectIntrusions 201 = .ok (.istore 15, 2) := by decide +kernel
theorem dX4_collectIntrusions_203 : decode cX4_collectIntrusions 203 = .ok (.aload 5, 2) := by decide +kernel
theorem dX4_collectIntrusions_205 : decode cX4_collectIntrusions 205 = .ok (.iload 7, 2) := by decide +kernel
theorem dX4_collectIntrusions_207 : decode cX4_collectIntrusions 207 = .ok (.invokevirtual 187, 3) := by decide +kernel
theorem dX4_collectIntrusions_210 : decode cX4_collectIntrusions 210 = .ok (.iload 9, 2) := by decide +kernel
theorem dX4_collectIntrusions_212 : decode cX4_collectIntrusions 212 = .ok (.iadd, 1) := by decide +kernel
theorem dX4_collectIntrusions_213 : decode cX4_collectIntrusions 213 = .ok (.aload 5, 2) := by decide +kernel
theorem dX4_collectIntrusions_215 : decode cX4_collectIntrusions 215 = .ok (.iload 7, 2) := by decide +kernel
theorem dX4_collectIntrusions_217 : decode cX4_collectIntrusions 217 = .ok (.invokevirtual 187, 3) := by decide +kernel
theorem dX4_collectIntrusions_220 : decode cX4_collectIntrusions 220 = .ok (.iload 10, 2) := by decide +kernel
theorem dX4_collectIntrusions_222 : decode cX4_collectIntrusions 222 = .ok (.iadd, 1) := by decide +kernel
theorem dX4_collectIntrusions_223 : decode cX4_collectIntrusions 223 = .ok (.aload 14, 2) := by decide +kernel
theorem dX4_collectIntrusions_225 : decode cX4_collectIntrusions 225 = .ok (.iload 7, 2) := by decide +kernel
theorem dX4_collectIntrusions_227 : decode cX4_collectIntrusions 227 = .ok (.invokevirtual 187, 3) := by decide +kernel
theorem dX4_collectIntrusions_230 : decode cX4_collectIntrusions 230 = .ok (.aload 14, 2) := by decide +kernel
theorem dX4_collectIntrusions_232 : decode cX4_collectIntrusions 232 = .ok (.iload 7, 2) := by decide +kernel
theorem dX4_collectIntrusions_234 : decode cX4_collectIntrusions 234 = .ok (.invokevirtual 190, 3) := by decide +kernel
theorem dX4_collectIntrusions_237 : decode cX4_collectIntrusions 237 = .ok (.invokestatic 199, 3) := by decide +kernel
theorem dX4_collectIntrusions_240 : decode cX4_collectIntrusions 240 = .ok (.istore 16, 2) := by decide +kernel
theorem dX4_collectIntrusions_242 : decode cX4_collectIntrusions 242 = .ok (.iload 13, 2) := by decide +kernel
theorem dX4_collectIntrusions_244 : decode cX4_collectIntrusions 244 = .ok (.iload_n 2, 1) := by decide +kernel
theorem dX4_collectIntrusions_245 : decode cX4_collectIntrusions 245 = .ok (.if_icmp .eq 50, 3) := by decide +kernel
theorem dX4_collectIntrusions_248 : decode cX4_collectIntrusions 248 = .ok (.iload 15, 2) := by decide +kernel
theorem dX4_collectIntrusions_250 : decode cX4_collectIntrusions 250 = .ok (.ifCond .ne 45, 3) := by decide +kernel
theorem dX4_collectIntrusions_253 : decode cX4_collectIntrusions 253 = .ok (.iload 16, 2) := by decide +kernel
theorem dX4_collectIntrusions_255 : decode cX4_collectIntrusions 255 = .ok (.ifCond .le 40, 3) := by decide +kernel
theorem dX4_collectIntrusions_258 : decode cX4_collectIntrusions 258 = .ok (.iload 12, 2) := by decide +kernel
theorem dX4_collectIntrusions_260 : decode cX4_collectIntrusions 260 = .ok (.iload 12, 2) := by decide +kernel
theorem dX4_collectIntrusions_262 : decode cX4_collectIntrusions 262 = .ok (.iload 4, 2) := by decide +kernel
theorem dX4_collectIntrusions_264 : decode cX4_collectIntrusions 264 = .ok (.iadd, 1) := by decide +kernel
theorem dX4_collectIntrusions_265 : decode cX4_collectIntrusions 265 = .ok (.aload 14, 2) := by decide +kernel
theorem dX4_collectIntrusions_267 : decode cX4_collectIntrusions 267 = .ok (.iload 8, 2) := by decide +kernel
theorem dX4_collectIntrusions_269 : decode cX4_collectIntrusions 269 = .ok (.invokevirtual 187, 3) := by decide +kernel
theorem dX4_collectIntrusions_272 : decode cX4_collectIntrusions 272 = .ok (.aload 14, 2) := by decide +kernel
theorem dX4_collectIntrusions_274 : decode cX4_collectIntrusions 274 = .ok (.iload 8, 2) := by decide +kernel
theorem dX4_collectIntrusions_276 : decode cX4_collectIntrusions 276 = .ok (.invokevirtual 190, 3) := by decide +kernel
theorem dX4_collectIntrusions_279 : decode cX4_collectIntrusions 279 = .ok (.invokestatic 199, 3) := by decide +kernel
theorem dX4_collectIntrusions_282 : decode cX4_collectIntrusions 282 = .ok (.istore 17, 2) := by decide +kernel
theorem dX4_collectIntrusions_284 : decode cX4_collectIntrusions 284 = .ok (.aload_n 0, 1) := by decide +kernel
theorem dX4_collectIntrusions_285 : decode cX4_collectIntrusions 285 = .ok (.iconst 5, 1) := by decide +kernel
theorem dX4_collectIntrusions_286 : decode cX4_collectIntrusions 286 = .ok (.iload_n 2, 1) := by decide +kernel
theorem dX4_collectIntrusions_287 : decode cX4_collectIntrusions 287 = .ok (.iload_n 3, 1) := by decide +kernel
theorem dX4_collectIntrusions_288 : decode cX4_collectIntrusions 288 = .ok (.iload 13, 2) := by decide +kernel
theorem dX4_collectIntrusions_290 : decode cX4_collectIntrusions 290 = .ok (.iload 17, 2) := by decide +kernel
theorem dX4_collectIntrusions_292 : decode cX4_collectIntrusions 292 = .ok (.invokevirtual 107, 3) := by decide +kernel
theorem dX4_collectIntrusions_295 : decode cX4_collectIntrusions 295 = .ok (.iinc 13 1, 3) := by decide +kernel
theorem dX4_collectIntrusions_298 : decode cX4_collectIntrusions 298 = .ok (.goto (-148), 3) := by decide +kernel
theorem dX4_collectIntrusions_301 : decode cX4_collectIntrusions 301 = .ok (.return_, 1) := by decide +kernel
theorem dX4_collectBreaks_0 : decode cX4_collectBreaks 0 = .ok (.aload_n 0, 1) := by decide +kernel
theorem dX4_collectBreaks_1 : decode cX4_collectBreaks 1 = .ok (.bipush 7, 2) := by decide +kernel
theorem dX4_collectBreaks_3 : decode cX4_collectBreaks 3 = .ok (.invokevirtual 98, 3) := by decide +kernel
theorem dX4_collectBreaks_6 : decode cX4_collectBreaks 6 = .ok (.ifCond .ne 4, 3) := by decide +kernel
theorem dX4_collectBreaks_9 : decode cX4_collectBreaks 9 = .ok (.return_, 1) := by decide +kernel
theorem dX4_collectBreaks_10 : decode cX4_collectBreaks 10 = .ok (.iconst 0, 1) := by decide +kernel
theorem dX4_collectBreaks_11 : decode cX4_collectBreaks 11 = .ok (.istore_n 2, 1) := by decide +kernel
theorem dX4_collectBreaks_12 : decode cX4_collectBreaks 12 = .ok (.iload_n 2, 1) := by decide +kernel
theorem dX4_collectBreaks_13 : decode cX4_collectBreaks 13 = .ok (.aload_n 0, 1) := by decide +kernel
theorem dX4_collectBreaks_14 : decode cX4_collectBreaks 14 = .ok (.getfield 37, 3) := by decide +kernel
theorem dX4_collectBreaks_17 : decode cX4_collectBreaks 17 = .ok (.getfield 203, 3) := by decide +kernel
theorem dX4_collectBreaks_20 : decode cX4_collectBreaks 20 = .ok (.if_icmp .ge 59, 3) := by decide +kernel
theorem dX4_collectBreaks_23 : decode cX4_collectBreaks 23 = .ok (.aload_n 0, 1) := by decide +kernel
theorem dX4_collectBreaks_24 : decode cX4_collectBreaks 24 = .ok (.getfield 29, 3) := by decide +kernel
theorem dX4_collectBreaks_27 : decode cX4_collectBreaks 27 = .ok (.aload_n 1, 1) := by decide +kernel
theorem dX4_collectBreaks_28 : decode cX4_collectBreaks 28 = .ok (.iload_n 2, 1) := by decide +kernel
theorem dX4_collectBreaks_29 : decode cX4_collectBreaks 29 = .ok (.invokevirtual 204, 3) := by decide +kernel
theorem dX4_collectBreaks_32 : decode cX4_collectBreaks 32 = .ok (.istore_n 3, 1) := by decide +kernel
theorem dX4_collectBreaks_33 : decode cX4_collectBreaks 33 = .ok (.iload_n 3, 1) := by decide +kernel
theorem dX4_collectBreaks_34 : decode cX4_collectBreaks 34 = .ok (.aload_n 0, 1) := by decide +kernel
theorem dX4_collectBreaks_35 : decode cX4_collectBreaks 35 = .ok (.iconst 0, 1) := by decide +kernel
theorem dX4_collectBreaks_36 : decode cX4_collectBreaks 36 = .ok (.invokevirtual 55, 3) := by decide +kernel
theorem dX4_collectBreaks_39 : decode cX4_collectBreaks 39 = .ok (.if_icmp .le 34, 3) := by decide +kernel
theorem dX4_collectBreaks_42 : decode cX4_collectBreaks 42 = .ok (.aload_n 0, 1) := by decide +kernel
theorem dX4_collectBreaks_43 : decode cX4_collectBreaks 43 = .ok (.bipush 7, 2) := by decide +kernel
theorem dX4_collectBreaks_45 : decode cX4_collectBreaks 45 = .ok (.aload_n 0, 1) := by decide +kernel
theorem dX4_collectBreaks_46 : decode cX4_collectBreaks 46 = .ok (.getfield 37, 3) := by decide +kernel
theorem dX4_collectBreaks_49 : decode cX4_collectBreaks 49 = .ok (.iload_n 2, 1) := by decide +kernel
theorem dX4_collectBreaks_50 : decode cX4_collectBreaks 50 = .ok (.invokevirtual 208, 3) := by decide +kernel
theorem dX4_collectBreaks_53 : decode cX4_collectBreaks 53 = .ok (.aload_n 0, 1) := by decide +kernel
theorem dX4_collectBreaks_54 : decode cX4_collectBreaks 54 = .ok (.getfield 37, 3) := by decide +kernel
theorem dX4_collectBreaks_57 : decode cX4_collectBreaks 57 = .ok (.iload_n 2, 1) := by decide +kernel
theorem dX4_collectBreaks_58 : decode cX4_collectBreaks 58 = .ok (.invokevirtual 211, 3) := by decide +kernel
theorem dX4_collectBreaks_61 : decode cX4_collectBreaks 61 = .ok (.aload_n 0, 1) := by decide +kernel
theorem dX4_collectBreaks_62 : decode cX4_collectBreaks 62 = .ok (.getfield 37, 3) := by decide +kernel
theorem dX4_collectBreaks_65 : decode cX4_collectBreaks 65 = .ok (.iload_n 2, 1) := by decide +kernel
theorem dX4_collectBreaks_66 : decode cX4_collectBreaks 66 = .ok (.invokevirtual 214, 3) := by decide +kernel
theorem dX4_collectBreaks_69 : decode cX4_collectBreaks 69 = .ok (.iload_n 3, 1) := by decide +kernel
theorem dX4_collectBreaks_70 : decode cX4_collectBreaks 70 = .ok (.invokevirtual 107, 3) := by decide +kernel
theorem dX4_collectBreaks_73 : decode cX4_collectBreaks 73 = .ok (.iinc 2 1, 3) := by decide +kernel
theorem dX4_collectBreaks_76 : decode cX4_collectBreaks 76 = .ok (.goto (-64), 3) := by decide +kernel
theorem dX4_collectBreaks_79 : decode cX4_collectBreaks 79 = .ok (.return_, 1) := by decide +kernel
theorem dX4_anyOpen_0 : decode cX4_anyOpen 0 = .ok (.iconst 0, 1) := by decide +kernel
theorem dX4_anyOpen_1 : decode cX4_anyOpen 1 = .ok (.istore_n 2, 1) := by decide +kernel
theorem dX4_anyOpen_2 : decode cX4_anyOpen 2 = .ok (.iload_n 2, 1) := by decide +kernel
theorem dX4_anyOpen_3 : decode cX4_anyOpen 3 = .ok (.aload_n 1, 1) := by decide +kernel
theorem dX4_anyOpen_4 : decode cX4_anyOpen 4 = .ok (.getfield 67, 3) := by decide +kernel
theorem dX4_anyOpen_7 : decode cX4_anyOpen 7 = .ok (.if_icmp .ge 47, 3) := by decide +kernel
theorem dX4_anyOpen_10 : decode cX4_anyOpen 10 = .ok (.iconst 0, 1) := by decide +kernel
theorem dX4_anyOpen_11 : decode cX4_anyOpen 11 = .ok (.istore_n 3, 1) := by decide +kernel
theorem dX4_anyOpen_12 : decode cX4_anyOpen 12 = .ok (.iload_n 3, 1) := by decide +kernel
theorem dX4_anyOpen_13 : decode cX4_anyOpen 13 = .ok (.iconst 4, 1) := by decide +kernel
theorem dX4_anyOpen_14 : decode cX4_anyOpen 14 = .ok (.if_icmp .ge 34, 3) := by decide +kernel
theorem dX4_anyOpen_17 : decode cX4_anyOpen 17 = .ok (.aload_n 1, 1) := by decide +kernel
theorem dX4_anyOpen_18 : decode cX4_anyOpen 18 = .ok (.iload_n 2, 1) := by decide +kernel
theorem dX4_anyOpen_19 : decode cX4_anyOpen 19 = .ok (.invokevirtual 72, 3) := by decide +kernel
theorem dX4_anyOpen_22 : decode cX4_anyOpen 22 = .ok (.invokevirtual 76, 3) := by decide +kernel
theorem dX4_anyOpen_25 : decode cX4_anyOpen 25 = .ok (.ifCond .ne 17, 3) := by decide +kernel
theorem dX4_anyOpen_28 : decode cX4_anyOpen 28 = .ok (.aload_n 0, 1) := by decide +kernel
theorem dX4_anyOpen_29 : decode cX4_anyOpen 29 = .ok (.getfield 37, 3) := by decide +kernel
theorem dX4_anyOpen_32 : decode cX4_anyOpen 32 = .ok (.iload_n 2, 1) := by decide +kernel
theorem dX4_anyOpen_33 : decode cX4_anyOpen 33 = .ok (.iload_n 3, 1) := by decide +kernel
theorem dX4_anyOpen_34 : decode cX4_anyOpen 34 = .ok (.invokevirtual 103, 3) := by decide +kernel
theorem dX4_anyOpen_37 : decode cX4_anyOpen 37 = .ok (.ifCond .le 5, 3) := by decide +kernel
theorem dX4_anyOpen_40 : decode cX4_anyOpen 40 = .ok (.iconst 1, 1) := by decide +kernel
theorem dX4_anyOpen_41 : decode cX4_anyOpen 41 = .ok (.ireturn, 1) := by decide +kernel
theorem dX4_anyOpen_42 : decode cX4_anyOpen 42 = .ok (.iinc 3 1, 3) := by decide +kernel
theorem dX4_anyOpen_45 : decode cX4_anyOpen 45 = .ok (.goto (-33), 3) := by decide +kernel
theorem dX4_anyOpen_48 : decode cX4_anyOpen 48 = .ok (.iinc 2 1, 3) := by decide +kernel
theorem dX4_anyOpen_51 : decode cX4_anyOpen 51 = .ok (.goto (-49), 3) := by decide +kernel
theorem dX4_anyOpen_54 : decode cX4_anyOpen 54 = .ok (.iconst 0, 1) := by decide +kernel
theorem dX4_anyOpen_55 : decode cX4_anyOpen 55 = .ok (.ireturn, 1) := by decide +kernel
theorem dX4_isClosed_0 : decode cX4_isClosed 0 = .ok (.iconst 0, 1) := by decide +kernel
theorem dX4_isClosed_1 : decode cX4_isClosed 1 = .ok (.istore_n 3, 1) := by decide +kernel
theorem dX4_isClosed_2 : decode cX4_isClosed 2 = .ok (.iload_n 3, 1) := by decide +kernel
theorem dX4_isClosed_3 : decode cX4_isClosed 3 = .ok (.aload_n 1, 1) := by decide +kernel
theorem dX4_isClosed_4 : decode cX4_isClosed 4 = .ok (.getfield 67, 3) := by decide +kernel
theorem dX4_isClosed_7 : decode cX4_isClosed 7 = .ok (.if_icmp .ge 40, 3) := by decide +kernel
theorem dX4_isClosed_10 : decode cX4_isClosed 10 = .ok (.aload_n 1, 1) := by decide +kernel
theorem dX4_isClosed_11 : decode cX4_isClosed 11 = .ok (.iload_n 3, 1) := by decide +kernel
theorem dX4_isClosed_12 : decode cX4_isClosed 12 = .ok (.invokevirtual 72, 3) := by decide +kernel
theorem dX4_isClosed_15 : decode cX4_isClosed 15 = .ok (.invokevirtual 76, 3) := by decide +kernel
theorem dX4_isClosed_18 : decode cX4_isClosed 18 = .ok (.ifCond .eq 23, 3) := by decide +kernel
theorem dX4_isClosed_21 : decode cX4_isClosed 21 = .ok (.aload_n 0, 1) := by decide +kernel
theorem dX4_isClosed_22 : decode cX4_isClosed 22 = .ok (.getfield 44, 3) := by decide +kernel
theorem dX4_isClosed_25 : decode cX4_isClosed 25 = .ok (.aload_n 1, 1) := by decide +kernel
theorem dX4_isClosed_26 : decode cX4_isClosed 26 = .ok (.iload_n 3, 1) := by decide +kernel
theorem dX4_isClosed_27 : decode cX4_isClosed 27 = .ok (.iload_n 2, 1) := by decide +kernel
theorem dX4_isClosed_28 : decode cX4_isClosed 28 = .ok (.invokevirtual 121, 3) := by decide +kernel
theorem dX4_isClosed_31 : decode cX4_isClosed 31 = .ok (.aload_n 0, 1) := by decide +kernel
theorem dX4_isClosed_32 : decode cX4_isClosed 32 = .ok (.iconst 3, 1) := by decide +kernel
theorem dX4_isClosed_33 : decode cX4_isClosed 33 = .ok (.invokevirtual 55, 3) := by decide +kernel
theorem dX4_isClosed_36 : decode cX4_isClosed 36 = .ok (.if_icmp .ge 5, 3) := by decide +kernel
theorem dX4_isClosed_39 : decode cX4_isClosed 39 = .ok (.iconst 0, 1) := by decide +kernel
theorem dX4_isClosed_40 : decode cX4_isClosed 40 = .ok (.ireturn, 1) := by decide +kernel
theorem dX4_isClosed_41 : decode cX4_isClosed 41 = .ok (.iinc 3 1, 3) := by decide +kernel
theorem dX4_isClosed_44 : decode cX4_isClosed 44 = .ok (.goto (-42), 3) := by decide +kernel
theorem dX4_isClosed_47 : decode cX4_isClosed 47 = .ok (.aload_n 0, 1) := by decide +kernel
theorem dX4_isClosed_48 : decode cX4_isClosed 48 = .ok (.getfield 37, 3) := by decide +kernel
theorem dX4_isClosed_51 : decode cX4_isClosed 51 = .ok (.iload_n 2, 1) := by decide +kernel
theorem dX4_isClosed_52 : decode cX4_isClosed 52 = .ok (.invokevirtual 59, 3) := by decide +kernel
theorem dX4_isClosed_55 : decode cX4_isClosed 55 = .ok (.aload_n 0, 1) := by decide +kernel
theorem dX4_isClosed_56 : decode cX4_isClosed 56 = .ok (.aload_n 1, 1) := by decide +kernel
theorem dX4_isClosed_57 : decode cX4_isClosed 57 = .ok (.invokevirtual 217, 3) := by decide +kernel
theorem dX4_isClosed_60 : decode cX4_isClosed 60 = .ok (.ifCond .ne 7, 3) := by decide +kernel
theorem dX4_isClosed_63 : decode cX4_isClosed 63 = .ok (.iconst 1, 1) := by decide +kernel
theorem dX4_isClosed_64 : decode cX4_isClosed 64 = .ok (.goto 4, 3) := by decide +kernel
theorem dX4_isClosed_67 : decode cX4_isClosed 67 = .ok (.iconst 0, 1) := by decide +kernel
theorem dX4_isClosed_68 : decode cX4_isClosed 68 = .ok (.ireturn, 1) := by decide +kernel
theorem dX4_sort_0 : decode cX4_sort 0 = .ok (.aload_n 0, 1) := by decide +kernel
theorem dX4_sort_1 : decode cX4_sort 1 = .ok (.getfield 9, 3) := by decide +kernel
theorem dX4_sort_4 : decode cX4_sort 4 = .ok (.iconst 2, 1) := by decide +kernel
theorem dX4_sort_5 : decode cX4_sort 5 = .ok (.idiv, 1) := by decide +kernel
theorem dX4_sort_6 : decode cX4_sort 6 = .ok (.istore_n 1, 1) := by decide +kernel
theorem dX4_sort_7 : decode cX4_sort 7 = .ok (.iload_n 1, 1) := by decide +kernel
theorem dX4_sort_8 : decode cX4_sort 8 = .ok (.ifCond .le 96, 3) := by decide +kernel
theorem dX4_sort_11 : decode cX4_sort 11 = .ok (.iload_n 1, 1) := by decide +kernel
theorem dX4_sort_12 : decode cX4_sort 12 = .ok (.istore_n 2, 1) := by decide +kernel
theorem dX4_sort_13 : decode cX4_sort 13 = .ok (.iload_n 2, 1) := by decide +kernel
theorem dX4_sort_14 : decode cX4_sort 14 = .ok (.aload_n 0, 1) := by decide +kernel
theorem dX4_sort_15 : decode cX4_sort 15 = .ok (.getfield 9, 3) := by decide +kernel
theorem dX4_sort_18 : decode cX4_sort 18 = .ok (.if_icmp .ge 79, 3) := by decide +kernel
theorem dX4_sort_21 : decode cX4_sort 21 = .ok (.iload_n 2, 1) := by decide +kernel
theorem dX4_sort_22 : decode cX4_sort 22 = .ok (.sipush 1000, 3) := by decide +kernel
theorem dX4_sort_25 : decode cX4_sort 25 = .ok (.if_icmp .ge 72, 3) := by decide +kernel
theorem dX4_sort_28 : decode cX4_sort 28 = .ok (.aload_n 0, 1) := by decide +kernel
theorem dX4_sort_29 : decode cX4_sort 29 = .ok (.getfield 45, 3) := by decide +kernel
theorem dX4_sort_32 : decode cX4_sort 32 = .ok (.iload_n 2, 1) := by decide +kernel
theorem dX4_sort_33 : decode cX4_sort 33 = .ok (.laload, 1) := by decide +kernel
theorem dX4_sort_34 : decode cX4_sort 34 = .ok (.lstore_n 3, 1) := by decide +kernel
theorem dX4_sort_35 : decode cX4_sort 35 = .ok (.iload_n 2, 1) := by decide +kernel
theorem dX4_sort_36 : decode cX4_sort 36 = .ok (.istore 5, 2) := by decide +kernel
theorem dX4_sort_38 : decode cX4_sort 38 = .ok (.iload 5, 2) := by decide +kernel
theorem dX4_sort_40 : decode cX4_sort 40 = .ok (.iload_n 1, 1) := by decide +kernel
theorem dX4_sort_41 : decode cX4_sort 41 = .ok (.if_icmp .lt 42, 3) := by decide +kernel
theorem dX4_sort_44 : decode cX4_sort 44 = .ok (.aload_n 0, 1) := by decide +kernel
theorem dX4_sort_45 : decode cX4_sort 45 = .ok (.getfield 45, 3) := by decide +kernel
theorem dX4_sort_48 : decode cX4_sort 48 = .ok (.iload 5, 2) := by decide +kernel
theorem dX4_sort_50 : decode cX4_sort 50 = .ok (.iload_n 1, 1) := by decide +kernel
theorem dX4_sort_51 : decode cX4_sort 51 = .ok (.isub, 1) := by decide +kernel
theorem dX4_sort_52 : decode cX4_sort 52 = .ok (.laload, 1) := by decide +kernel
theorem dX4_sort_53 : decode cX4_sort 53 = .ok (.lload_n 3, 1) := by decide +kernel
theorem dX4_sort_54 : decode cX4_sort 54 = .ok (.lcmp, 1) := by decide +kernel
theorem dX4_sort_55 : decode cX4_sort 55 = .ok (.ifCond .le 28, 3) := by decide +kernel
theorem dX4_sort_58 : decode cX4_sort 58 = .ok (.aload_n 0, 1) := by decide +kernel
theorem dX4_sort_59 : decode cX4_sort 59 = .ok (.getfield 45, 3) := by decide +kernel
theorem dX4_sort_62 : decode cX4_sort 62 = .ok (.iload 5, 2) := by decide +kernel
theorem dX4_sort_64 : decode cX4_sort 64 = .ok (.aload_n 0, 1) := by decide +kernel
theorem dX4_sort_65 : decode cX4_sort 65 = .ok (.getfield 45, 3) := by decide +kernel
theorem dX4_sort_68 : decode cX4_sort 68 = .ok (.iload 5, 2) := by decide +kernel
theorem dX4_sort_70 : decode cX4_sort 70 = .ok (.iload_n 1, 1) := by decide +kernel
theorem dX4_sort_71 : decode cX4_sort 71 = .ok (.isub, 1) := by decide +kernel
theorem dX4_sort_72 : decode cX4_sort 72 = .ok (.laload, 1) := by decide +kernel
theorem dX4_sort_73 : decode cX4_sort 73 = .ok (.lastore, 1) := by decide +kernel
theorem dX4_sort_74 : decode cX4_sort 74 = .ok (.iload 5, 2) := by decide +kernel
theorem dX4_sort_76 : decode cX4_sort 76 = .ok (.iload_n 1, 1) := by decide +kernel
theorem dX4_sort_77 : decode cX4_sort 77 = .ok (.isub, 1) := by decide +kernel
theorem dX4_sort_78 : decode cX4_sort 78 = .ok (.istore 5, 2) := by decide +kernel
theorem dX4_sort_80 : decode cX4_sort 80 = .ok (.goto (-42), 3) := by decide +kernel
theorem dX4_sort_83 : decode cX4_sort 83 = .ok (.aload_n 0, 1) := by decide +kernel
theorem dX4_sort_84 : decode cX4_sort 84 = .ok (.getfield 45, 3) := by decide +kernel
theorem dX4_sort_87 : decode cX4_sort 87 = .ok (.iload 5, 2) := by decide +kernel
theorem dX4_sort_89 : decode cX4_sort 89 = .ok (.lload_n 3, 1) := by decide +kernel
theorem dX4_sort_90 : decode cX4_sort 90 = .ok (.lastore, 1) := by decide +kernel
theorem dX4_sort_91 : decode cX4_sort 91 = .ok (.iinc 2 1, 3) := by decide +kernel
theorem dX4_sort_94 : decode cX4_sort 94 = .ok (.goto (-81), 3) := by decide +kernel
theorem dX4_sort_97 : decode cX4_sort 97 = .ok (.iload_n 1, 1) := by decide +kernel
theorem dX4_sort_98 : decode cX4_sort 98 = .ok (.iconst 2, 1) := by decide +kernel
theorem dX4_sort_99 : decode cX4_sort 99 = .ok (.idiv, 1) := by decide +kernel
theorem dX4_sort_100 : decode cX4_sort 100 = .ok (.istore_n 1, 1) := by decide +kernel
theorem dX4_sort_101 : decode cX4_sort 101 = .ok (.goto (-94), 3) := by decide +kernel
theorem dX4_sort_104 : decode cX4_sort 104 = .ok (.return_, 1) := by decide +kernel
theorem dX4_kindOf_0 : decode cX4_kindOf 0 = .ok (.lload_n 0, 1) := by decide +kernel
theorem dX4_kindOf_1 : decode cX4_kindOf 1 = .ok (.bipush 11, 2) := by decide +kernel
theorem dX4_kindOf_3 : decode cX4_kindOf 3 = .ok (.lshr, 1) := by decide +kernel
theorem dX4_kindOf_4 : decode cX4_kindOf 4 = .ok (.l2i, 1) := by decide +kernel
theorem dX4_kindOf_5 : decode cX4_kindOf 5 = .ok (.bipush 7, 2) := by decide +kernel
theorem dX4_kindOf_7 : decode cX4_kindOf 7 = .ok (.iand, 1) := by decide +kernel
theorem dX4_kindOf_8 : decode cX4_kindOf 8 = .ok (.ireturn, 1) := by decide +kernel
theorem dX4_panelOf_0 : decode cX4_panelOf 0 = .ok (.lload_n 0, 1) := by decide +kernel
theorem dX4_panelOf_1 : decode cX4_panelOf 1 = .ok (.bipush 7, 2) := by decide +kernel
theorem dX4_panelOf_3 : decode cX4_panelOf 3 = .ok (.lshr, 1) := by decide +kernel
theorem dX4_panelOf_4 : decode cX4_panelOf 4 = .ok (.l2i, 1) := by decide +kernel
theorem dX4_panelOf_5 : decode cX4_panelOf 5 = .ok (.bipush 15, 2) := by decide +kernel
theorem dX4_panelOf_7 : decode cX4_panelOf 7 = .ok (.iand, 1) := by decide +kernel
theorem dX4_panelOf_8 : decode cX4_panelOf 8 = .ok (.ireturn, 1) := by decide +kernel
theorem dX4_sideOf_0 : decode cX4_sideOf 0 = .ok (.lload_n 0, 1) := by decide +kernel
theorem dX4_sideOf_1 : decode cX4_sideOf 1 = .ok (.iconst 4, 1) := by decide +kernel
theorem dX4_sideOf_2 : decode cX4_sideOf 2 = .ok (.lshr, 1) := by decide +kernel
theorem dX4_sideOf_3 : decode cX4_sideOf 3 = .ok (.l2i, 1) := by decide +kernel
theorem dX4_sideOf_4 : decode cX4_sideOf 4 = .ok (.bipush 7, 2) := by decide +kernel
theorem dX4_sideOf_6 : decode cX4_sideOf 6 = .ok (.iand, 1) := by decide +kernel
theorem dX4_sideOf_7 : decode cX4_sideOf 7 = .ok (.istore_n 2, 1) := by decide +kernel
theorem dX4_sideOf_8 : decode cX4_sideOf 8 = .ok (.iload_n 2, 1) := by decide +kernel
theorem dX4_sideOf_9 : decode cX4_sideOf 9 = .ok (.ifCond .ne 8, 3) := by decide +kernel
theorem dX4_sideOf_12 : decode cX4_sideOf 12 = .ok (.bipush (-9), 2) := by decide +kernel
theorem dX4_sideOf_14 : decode cX4_sideOf 14 = .ok (.goto 6, 3) := by decide +kernel
theorem dX4_sideOf_17 : decode cX4_sideOf 17 = .ok (.iload_n 2, 1) := by decide +kernel
theorem dX4_sideOf_18 : decode cX4_sideOf 18 = .ok (.iconst 1, 1) := by decide +kernel
theorem dX4_sideOf_19 : decode cX4_sideOf 19 = .ok (.isub, 1) := by decide +kernel
theorem dX4_sideOf_20 : decode cX4_sideOf 20 = .ok (.ireturn, 1) := by decide +kernel
theorem dX4_otherOf_0 : decode cX4_otherOf 0 = .ok (.lload_n 0, 1) := by decide +kernel
theorem dX4_otherOf_1 : decode cX4_otherOf 1 = .ok (.l2i, 1) := by decide +kernel
theorem dX4_otherOf_2 : decode cX4_otherOf 2 = .ok (.bipush 15, 2) := by decide +kernel
theorem dX4_otherOf_4 : decode cX4_otherOf 4 = .ok (.iand, 1) := by decide +kernel
theorem dX4_otherOf_5 : decode cX4_otherOf 5 = .ok (.istore_n 2, 1) := by decide +kernel
theorem dX4_otherOf_6 : decode cX4_otherOf 6 = .ok (.iload_n 2, 1) := by decide +kernel
theorem dX4_otherOf_7 : decode cX4_otherOf 7 = .ok (.ifCond .ne 8, 3) := by decide +kernel
theorem dX4_otherOf_10 : decode cX4_otherOf 10 = .ok (.bipush (-9), 2) := by decide +kernel
theorem dX4_otherOf_12 : decode cX4_otherOf 12 = .ok (.goto 6, 3) := by decide +kernel
theorem dX4_otherOf_15 : decode cX4_otherOf 15 = .ok (.iload_n 2, 1) := by decide +kernel
theorem dX4_otherOf_16 : decode cX4_otherOf 16 = .ok (.iconst 1, 1) := by decide +kernel
theorem dX4_otherOf_17 : decode cX4_otherOf 17 = .ok (.isub, 1) := by decide +kernel
theorem dX4_otherOf_18 : decode cX4_otherOf 18 = .ok (.ireturn, 1) := by decide +kernel
theorem dX4_costOf_0 : decode cX4_costOf 0 = .ok (.ldc2_w 101, 3) := by decide +kernel
theorem dX4_costOf_3 : decode cX4_costOf 3 = .ok (.lload_n 0, 1) := by decide +kernel
theorem dX4_costOf_4 : decode cX4_costOf 4 = .ok (.bipush 14, 2) := by decide +kernel
theorem dX4_costOf_6 : decode cX4_costOf 6 = .ok (.lshr, 1) := by decide +kernel
theorem dX4_costOf_7 : decode cX4_costOf 7 = .ok (.lsub, 1) := by decide +kernel
theorem dX4_costOf_8 : decode cX4_costOf 8 = .ok (.l2i, 1) := by decide +kernel
theorem dX4_costOf_9 : decode cX4_costOf 9 = .ok (.ireturn, 1) := by decide +kernel
theorem dX4_value_0 : decode cX4_value 0 = .ok (.iload_n 1, 1) := by decide +kernel
theorem dX4_value_1 : decode cX4_value 1 = .ok (.ifCond .lt 18, 3) := by decide +kernel
theorem dX4_value_4 : decode cX4_value 4 = .ok (.iload_n 1, 1) := by decide +kernel
theorem dX4_value_5 : decode cX4_value 5 = .ok (.aload_n 0, 1) := by decide +kernel
theorem dX4_value_6 : decode cX4_value 6 = .ok (.getfield 9, 3) := by decide +kernel
theorem dX4_value_9 : decode cX4_value 9 = .ok (.if_icmp .ge 10, 3) := by decide +kernel
theorem dX4_value_12 : decode cX4_value 12 = .ok (.iload_n 1, 1) := by decide +kernel
theorem dX4_value_13 : decode cX4_value 13 = .ok (.sipush 1000, 3) := by decide +kernel
theorem dX4_value_16 : decode cX4_value 16 = .ok (.if_icmp .lt 5, 3) := by decide +kernel
theorem dX4_value_19 : decode cX4_value 19 = .ok (.iconst (-1), 1) := by decide +kernel
theorem dX4_value_20 : decode cX4_value 20 = .ok (.ireturn, 1) := by decide +kernel
theorem dX4_value_21 : decode cX4_value 21 = .ok (.aload_n 0, 1) := by decide +kernel
theorem dX4_value_22 : decode cX4_value 22 = .ok (.getfield 45, 3) := by decide +kernel
theorem dX4_value_25 : decode cX4_value 25 = .ok (.iload_n 1, 1) := by decide +kernel
theorem dX4_value_26 : decode cX4_value 26 = .ok (.laload, 1) := by decide +kernel
theorem dX4_value_27 : decode cX4_value 27 = .ok (.lstore_n 3, 1) := by decide +kernel
theorem dX4_value_28 : decode cX4_value 28 = .ok (.aload_n 0, 1) := by decide +kernel
theorem dX4_value_29 : decode cX4_value 29 = .ok (.lload_n 3, 1) := by decide +kernel
theorem dX4_value_30 : decode cX4_value 30 = .ok (.invokestatic 221, 3) := by decide +kernel
theorem dX4_value_33 : decode cX4_value 33 = .ok (.invokevirtual 98, 3) := by decide +kernel
theorem dX4_value_36 : decode cX4_value 36 = .ok (.istore 5, 2) := by decide +kernel
theorem dX4_value_38 : decode cX4_value 38 = .ok (.iload_n 2, 1) := by decide +kernel
theorem dX4_value_39 : decode cX4_value 39 = .ok (.tableswitch 70 0 4 #[33, 38, 43, 48, 53], 33) := by decide +kernel
theorem dX4_value_72 : decode cX4_value 72 = .ok (.lload_n 3, 1) := by decide +kernel
theorem dX4_value_73 : decode cX4_value 73 = .ok (.invokestatic 221, 3) := by decide +kernel
theorem dX4_value_76 : decode cX4_value 76 = .ok (.ireturn, 1) := by decide +kernel
theorem dX4_value_77 : decode cX4_value 77 = .ok (.lload_n 3, 1) := by decide +kernel
theorem dX4_value_78 : decode cX4_value 78 = .ok (.invokestatic 225, 3) := by decide +kernel
theorem dX4_value_81 : decode cX4_value 81 = .ok (.ireturn, 1) := by decide +kernel
theorem dX4_value_82 : decode cX4_value 82 = .ok (.lload_n 3, 1) := by decide +kernel
theorem dX4_value_83 : decode cX4_value 83 = .ok (.invokestatic 228, 3) := by decide +kernel
theorem dX4_value_86 : decode cX4_value 86 = .ok (.ireturn, 1) := by decide +kernel
theorem dX4_value_87 : decode cX4_value 87 = .ok (.lload_n 3, 1) := by decide +kernel
theorem dX4_value_88 : decode cX4_value 88 = .ok (.invokestatic 231, 3) := by decide +kernel
theorem dX4_value_91 : decode cX4_value 91 = .ok (.ireturn, 1) := by decide +kernel
theorem dX4_value_92 : decode cX4_value 92 = .ok (.iload 5, 2) := by decide +kernel
theorem dX4_value_94 : decode cX4_value 94 = .ok (.ifCond .le 13, 3) := by decide +kernel
theorem dX4_value_97 : decode cX4_value 97 = .ok (.lload_n 3, 1) := by decide +kernel
theorem dX4_value_98 : decode cX4_value 98 = .ok (.invokestatic 234, 3) := by decide +kernel
theorem dX4_value_101 : decode cX4_value 101 = .ok (.iload 5, 2) := by decide +kernel
theorem dX4_value_103 : decode cX4_value 103 = .ok (.idiv, 1) := by decide +kernel
theorem dX4_value_104 : decode cX4_value 104 = .ok (.goto 4, 3) := by decide +kernel
theorem dX4_value_107 : decode cX4_value 107 = .ok (.iconst 0, 1) := by decide +kernel
theorem dX4_value_108 : decode cX4_value 108 = .ok (.ireturn, 1) := by decide +kernel
theorem dX4_value_109 : decode cX4_value 109 = .ok (.lload_n 3, 1) := by decide +kernel
theorem dX4_value_110 : decode cX4_value 110 = .ok (.invokestatic 234, 3) := by decide +kernel
theorem dX4_value_113 : decode cX4_value 113 = .ok (.ireturn, 1) := by decide +kernel
theorem dX4_sumAbout_0 : decode cX4_sumAbout 0 = .ok (.lconst 0, 1) := by decide +kernel
theorem dX4_sumAbout_1 : decode cX4_sumAbout 1 = .ok (.lstore_n 2, 1) := by decide +kernel
theorem dX4_sumAbout_2 : decode cX4_sumAbout 2 = .ok (.iconst 0, 1) := by decide +kernel
theorem dX4_sumAbout_3 : decode cX4_sumAbout 3 = .ok (.istore 4, 2) := by decide +kernel
theorem dX4_sumAbout_5 : decode cX4_sumAbout 5 = .ok (.iload 4, 2) := by decide +kernel
theorem dX4_sumAbout_7 : decode cX4_sumAbout 7 = .ok (.aload_n 0, 1) := by decide +kernel
theorem dX4_sumAbout_8 : decode cX4_sumAbout 8 = .ok (.getfield 9, 3) := by decide +kernel
theorem dX4_sumAbout_11 : decode cX4_sumAbout 11 = .ok (.if_icmp .ge 59, 3) := by decide +kernel
theorem dX4_sumAbout_14 : decode cX4_sumAbout 14 = .ok (.iload 4, 2) := by decide +kernel
theorem dX4_sumAbout_16 : decode cX4_sumAbout 16 = .ok (.sipush 1000, 3) := by decide +kernel
theorem dX4_sumAbout_19 : decode cX4_sumAbout 19 = .ok (.if_icmp .ge 51, 3) := by decide +kernel
theorem dX4_sumAbout_22 : decode cX4_sumAbout 22 = .ok (.aload_n 0, 1) := by decide +kernel
theorem dX4_sumAbout_23 : decode cX4_sumAbout 23 = .ok (.getfield 45, 3) := by decide +kernel
theorem dX4_sumAbout_26 : decode cX4_sumAbout 26 = .ok (.iload 4, 2) := by decide +kernel
theorem dX4_sumAbout_28 : decode cX4_sumAbout 28 = .ok (.laload, 1) := by decide +kernel
theorem dX4_sumAbout_29 : decode cX4_sumAbout 29 = .ok (.invokestatic 225, 3) := by decide +kernel
theorem dX4_sumAbout_32 : decode cX4_sumAbout 32 = .ok (.iload_n 1, 1) := by decide +kernel
theorem dX4_sumAbout_33 : decode cX4_sumAbout 33 = .ok (.if_icmp .eq 17, 3) := by decide +kernel
theorem dX4_sumAbout_36 : decode cX4_sumAbout 36 = .ok (.aload_n 0, 1) := by decide +kernel
theorem dX4_sumAbout_37 : decode cX4_sumAbout 37 = .ok (.getfield 45, 3) := by decide +kernel
theorem dX4_sumAbout_40 : decode cX4_sumAbout 40 = .ok (.iload 4, 2) := by decide +kernel
theorem dX4_sumAbout_42 : decode cX4_sumAbout 42 = .ok (.laload, 1) := by decide +kernel
theorem dX4_sumAbout_43 : decode cX4_sumAbout 43 = .ok (.invokestatic 231, 3) := by decide +kernel
theorem dX4_sumAbout_46 : decode cX4_sumAbout 46 = .ok (.iload_n 1, 1) := by decide +kernel
theorem dX4_sumAbout_47 : decode cX4_sumAbout 47 = .ok (.if_icmp .ne 17, 3) := by decide +kernel
theorem dX4_sumAbout_50 : decode cX4_sumAbout 50 = .ok (.lload_n 2, 1) := by decide +kernel
theorem dX4_sumAbout_51 : decode cX4_sumAbout 51 = .ok (.aload_n 0, 1) := by decide +kernel
theorem dX4_sumAbout_52 : decode cX4_sumAbout 52 = .ok (.getfield 45, 3) := by decide +kernel
theorem dX4_sumAbout_55 : decode cX4_sumAbout 55 = .ok (.iload 4, 2) := by decide +kernel
theorem dX4_sumAbout_57 : decode cX4_sumAbout 57 = .ok (.laload, 1) := by decide +kernel
theorem dX4_sumAbout_58 : decode cX4_sumAbout 58 = .ok (.invokestatic 234, 3) := by decide +kernel
theorem dX4_sumAbout_61 : decode cX4_sumAbout 61 = .ok (.i2l, 1) := by decide +kernel
theorem dX4_sumAbout_62 : decode cX4_sumAbout 62 = .ok (.ladd, 1) := by decide +kernel
theorem dX4_sumAbout_63 : decode cX4_sumAbout 63 = .ok (.lstore_n 2, 1) := by decide +kernel
theorem dX4_sumAbout_64 : decode cX4_sumAbout 64 = .ok (.iinc 4 1, 3) := by decide +kernel
theorem dX4_sumAbout_67 : decode cX4_sumAbout 67 = .ok (.goto (-62), 3) := by decide +kernel
theorem dX4_sumAbout_70 : decode cX4_sumAbout 70 = .ok (.lload_n 2, 1) := by decide +kernel
theorem dX4_sumAbout_71 : decode cX4_sumAbout 71 = .ok (.lreturn, 1) := by decide +kernel
theorem dX5_init_0 : decode cX5_init 0 = .ok (.aload_n 0, 1) := by decide +kernel
theorem dX5_init_1 : decode cX5_init 1 = .ok (.invokespecial 3, 3) := by decide +kernel
theorem dX5_init_4 : decode cX5_init 4 = .ok (.aload_n 0, 1) := by decide +kernel
theorem dX5_init_5 : decode cX5_init 5 = .ok (.iconst 0, 1) := by decide +kernel
theorem dX5_init_6 : decode cX5_init 6 = .ok (.putfield 9, 3) := by decide +kernel
theorem dX5_init_9 : decode cX5_init 9 = .ok (.aload_n 0, 1) := by decide +kernel
theorem dX5_init_10 : decode cX5_init 10 = .ok (.bipush 10, 2) := by decide +kernel
theorem dX5_init_12 : decode cX5_init 12 = .ok (.anewarray 15, 3) := by decide +kernel
theorem dX5_init_15 : decode cX5_init 15 = .ok (.putfield 17, 3) := by decide +kernel
theorem dX5_init_18 : decode cX5_init 18 = .ok (.aload_n 0, 1) := by decide +kernel
theorem dX5_init_19 : decode cX5_init 19 = .ok (.new 15, 3) := by decide +kernel
theorem dX5_init_22 : decode cX5_init 22 = .ok (.dup, 1) := by decide +kernel
theorem dX5_init_23 : decode cX5_init 23 = .ok (.invokespecial 21, 3) := by decide +kernel
theorem dX5_init_26 : decode cX5_init 26 = .ok (.putfield 22, 3) := by decide +kernel
theorem dX5_init_29 : decode cX5_init 29 = .ok (.aload_n 0, 1) := by decide +kernel
theorem dX5_init_30 : decode cX5_init 30 = .ok (.bipush 10, 2) := by decide +kernel
theorem dX5_init_32 : decode cX5_init 32 = .ok (.newarray .int, 2) := by decide +kernel
theorem dX5_init_34 : decode cX5_init 34 = .ok (.putfield 26, 3) := by decide +kernel
theorem dX5_init_37 : decode cX5_init 37 = .ok (.aload_n 0, 1) := by decide +kernel
theorem dX5_init_38 : decode cX5_init 38 = .ok (.sipush 1024, 3) := by decide +kernel
theorem dX5_init_41 : decode cX5_init 41 = .ok (.newarray .boolean, 2) := by decide +kernel
theorem dX5_init_43 : decode cX5_init 43 = .ok (.putfield 30, 3) := by decide +kernel
theorem dX5_init_46 : decode cX5_init 46 = .ok (.iconst 0, 1) := by decide +kernel
theorem dX5_init_47 : decode cX5_init 47 = .ok (.istore_n 1, 1) := by decide +kernel
theorem dX5_init_48 : decode cX5_init 48 = .ok (.iload_n 1, 1) := by decide +kernel
theorem dX5_init_49 : decode cX5_init 49 = .ok (.bipush 10, 2) := by decide +kernel
theorem dX5_init_51 : decode cX5_init 51 = .ok (.if_icmp .ge 22, 3) := by decide +kernel
theorem dX5_init_54 : decode cX5_init 54 = .ok (.aload_n 0, 1) := by decide +kernel
theorem dX5_init_55 : decode cX5_init 55 = .ok (.getfield 17, 3) := by decide +kernel
theorem dX5_init_58 : decode cX5_init 58 = .ok (.iload_n 1, 1) := by decide +kernel
theorem dX5_init_59 : decode cX5_init 59 = .ok (.new 15, 3) := by decide +kernel
theorem dX5_init_62 : decode cX5_init 62 = .ok (.dup, 1) := by decide +kernel
theorem dX5_init_63 : decode cX5_init 63 = .ok (.invokespecial 21, 3) := by decide +kernel
theorem dX5_init_66 : decode cX5_init 66 = .ok (.aastore, 1) := by decide +kernel
theorem dX5_init_67 : decode cX5_init 67 = .ok (.iinc 1 1, 3) := by decide +kernel
theorem dX5_init_70 : decode cX5_init 70 = .ok (.goto (-22), 3) := by decide +kernel
theorem dX5_init_73 : decode cX5_init 73 = .ok (.return_, 1) := by decide +kernel
theorem dX5_poseAt_0 : decode cX5_poseAt 0 = .ok (.iload_n 1, 1) := by decide +kernel
theorem dX5_poseAt_1 : decode cX5_poseAt 1 = .ok (.ifCond .lt 18, 3) := by decide +kernel
theorem dX5_poseAt_4 : decode cX5_poseAt 4 = .ok (.iload_n 1, 1) := by decide +kernel
theorem dX5_poseAt_5 : decode cX5_poseAt 5 = .ok (.bipush 10, 2) := by decide +kernel
theorem dX5_poseAt_7 : decode cX5_poseAt 7 = .ok (.if_icmp .ge 12, 3) := by decide +kernel
theorem dX5_poseAt_10 : decode cX5_poseAt 10 = .ok (.aload_n 0, 1) := by decide +kernel
theorem dX5_poseAt_11 : decode cX5_poseAt 11 = .ok (.getfield 17, 3) := by decide +kernel
theorem dX5_poseAt_14 : decode cX5_poseAt 14 = .ok (.iload_n 1, 1) := by decide +kernel
theorem dX5_poseAt_15 : decode cX5_poseAt 15 = .ok (.aaload, 1) := by decide +kernel
theorem dX5_poseAt_16 : decode cX5_poseAt 16 = .ok (.goto 7, 3) := by decide +kernel
theorem dX5_poseAt_19 : decode cX5_poseAt 19 = .ok (.aload_n 0, 1) := by decide +kernel
theorem dX5_poseAt_20 : decode cX5_poseAt 20 = .ok (.getfield 22, 3) := by decide +kernel
theorem dX5_poseAt_23 : decode cX5_poseAt 23 = .ok (.areturn, 1) := by decide +kernel
theorem dX5_orderAt_0 : decode cX5_orderAt 0 = .ok (.iload_n 1, 1) := by decide +kernel
theorem dX5_orderAt_1 : decode cX5_orderAt 1 = .ok (.ifCond .lt 18, 3) := by decide +kernel
theorem dX5_orderAt_4 : decode cX5_orderAt 4 = .ok (.iload_n 1, 1) := by decide +kernel
theorem dX5_orderAt_5 : decode cX5_orderAt 5 = .ok (.bipush 10, 2) := by decide +kernel
theorem dX5_orderAt_7 : decode cX5_orderAt 7 = .ok (.if_icmp .ge 12, 3) := by decide +kernel
theorem dX5_orderAt_10 : decode cX5_orderAt 10 = .ok (.aload_n 0, 1) := by decide +kernel
theorem dX5_orderAt_11 : decode cX5_orderAt 11 = .ok (.getfield 26, 3) := by decide +kernel
theorem dX5_orderAt_14 : decode cX5_orderAt 14 = .ok (.iload_n 1, 1) := by decide +kernel
theorem dX5_orderAt_15 : decode cX5_orderAt 15 = .ok (.iaload, 1) := by decide +kernel
theorem dX5_orderAt_16 : decode cX5_orderAt 16 = .ok (.goto 5, 3) := by decide +kernel
theorem dX5_orderAt_19 : decode cX5_orderAt 19 = .ok (.bipush (-9), 2) := by decide +kernel
theorem dX5_orderAt_21 : decode cX5_orderAt 21 = .ok (.ireturn, 1) := by decide +kernel
theorem dX5_fold_0 : decode cX5_fold 0 = .ok (.aload_n 0, 1) := by decide +kernel
theorem dX5_fold_1 : decode cX5_fold 1 = .ok (.aload_n 1, 1) := by decide +kernel
theorem dX5_fold_2 : decode cX5_fold 2 = .ok (.getfield 34, 3) := by decide +kernel
theorem dX5_fold_5 : decode cX5_fold 5 = .ok (.putfield 9, 3) := by decide +kernel
theorem dX5_fold_8 : decode cX5_fold 8 = .ok (.aload_n 0, 1) := by decide +kernel
theorem dX5_fold_9 : decode cX5_fold 9 = .ok (.getfield 9, 3) := by decide +kernel
theorem dX5_fold_12 : decode cX5_fold 12 = .ok (.ifCond .le 24, 3) := by decide +kernel
theorem dX5_fold_15 : decode cX5_fold 15 = .ok (.aload_n 0, 1) := by decide +kernel
theorem dX5_fold_16 : decode cX5_fold 16 = .ok (.iconst 0, 1) := by decide +kernel
theorem dX5_fold_17 : decode cX5_fold 17 = .ok (.invokevirtual 39, 3) := by decide +kernel
theorem dX5_fold_20 : decode cX5_fold 20 = .ok (.aload_n 1, 1) := by decide +kernel
theorem dX5_fold_21 : decode cX5_fold 21 = .ok (.iconst 0, 1) := by decide +kernel
theorem dX5_fold_22 : decode cX5_fold 22 = .ok (.invokevirtual 43, 3) := by decide +kernel
theorem dX5_fold_25 : decode cX5_fold 25 = .ok (.invokevirtual 47, 3) := by decide +kernel
theorem dX5_fold_28 : decode cX5_fold 28 = .ok (.aload_n 0, 1) := by decide +kernel
theorem dX5_fold_29 : decode cX5_fold 29 = .ok (.iconst 0, 1) := by decide +kernel
theorem dX5_fold_30 : decode cX5_fold 30 = .ok (.invokevirtual 39, 3) := by decide +kernel
theorem dX5_fold_33 : decode cX5_fold 33 = .ok (.invokevirtual 51, 3) := by decide +kernel
theorem dX5_fold_36 : decode cX5_fold 36 = .ok (.iconst 1, 1) := by decide +kernel
theorem dX5_fold_37 : decode cX5_fold 37 = .ok (.istore_n 3, 1) := by decide +kernel
theorem dX5_fold_38 : decode cX5_fold 38 = .ok (.iload_n 3, 1) := by decide +kernel
theorem dX5_fold_39 : decode cX5_fold 39 = .ok (.aload_n 0, 1) := by decide +kernel
theorem dX5_fold_40 : decode cX5_fold 40 = .ok (.getfield 9, 3) := by decide +kernel
theorem dX5_fold_43 : decode cX5_fold 43 = .ok (.if_icmp .ge 64, 3) := by decide +kernel
theorem dX5_fold_46 : decode cX5_fold 46 = .ok (.aload_n 1, 1) := by decide +kernel
theorem dX5_fold_47 : decode cX5_fold 47 = .ok (.iload_n 3, 1) := by decide +kernel
theorem dX5_fold_48 : decode cX5_fold 48 = .ok (.invokevirtual 43, 3) := by decide +kernel
theorem dX5_fold_51 : decode cX5_fold 51 = .ok (.astore 4, 2) := by decide +kernel
theorem dX5_fold_53 : decode cX5_fold 53 = .ok (.iload_n 2, 1) := by decide +kernel
theorem dX5_fold_54 : decode cX5_fold 54 = .ok (.iconst 1, 1) := by decide +kernel
theorem dX5_fold_55 : decode cX5_fold 55 = .ok (.iload_n 3, 1) := by decide +kernel
theorem dX5_fold_56 : decode cX5_fold 56 = .ok (.ishl, 1) := by decide +kernel
theorem dX5_fold_57 : decode cX5_fold 57 = .ok (.iand, 1) := by decide +kernel
theorem dX5_fold_58 : decode cX5_fold 58 = .ok (.ifCond .eq 11, 3) := by decide +kernel
theorem dX5_fold_61 : decode cX5_fold 61 = .ok (.aload 4, 2) := by decide +kernel
theorem dX5_fold_63 : decode cX5_fold 63 = .ok (.getfield 54, 3) := by decide +kernel
theorem dX5_fold_66 : decode cX5_fold 66 = .ok (.goto 4, 3) := by decide +kernel
theorem dX5_fold_69 : decode cX5_fold 69 = .ok (.iconst 0, 1) := by decide +kernel
theorem dX5_fold_70 : decode cX5_fold 70 = .ok (.istore 5, 2) := by decide +kernel
theorem dX5_fold_72 : decode cX5_fold 72 = .ok (.aload_n 0, 1) := by decide +kernel
theorem dX5_fold_73 : decode cX5_fold 73 = .ok (.iload_n 3, 1) := by decide +kernel
theorem dX5_fold_74 : decode cX5_fold 74 = .ok (.invokevirtual 39, 3) := by decide +kernel
theorem dX5_fold_77 : decode cX5_fold 77 = .ok (.aload_n 0, 1) := by decide +kernel
theorem dX5_fold_78 : decode cX5_fold 78 = .ok (.aload 4, 2) := by decide +kernel
theorem dX5_fold_80 : decode cX5_fold 80 = .ok (.getfield 59, 3) := by decide +kernel
theorem dX5_fold_83 : decode cX5_fold 83 = .ok (.invokevirtual 39, 3) := by decide +kernel
theorem dX5_fold_86 : decode cX5_fold 86 = .ok (.aload 4, 2) := by decide +kernel
theorem dX5_fold_88 : decode cX5_fold 88 = .ok (.iload 5, 2) := by decide +kernel
theorem dX5_fold_90 : decode cX5_fold 90 = .ok (.invokevirtual 62, 3) := by decide +kernel
theorem dX5_fold_93 : decode cX5_fold 93 = .ok (.aload_n 0, 1) := by decide +kernel
theorem dX5_fold_94 : decode cX5_fold 94 = .ok (.iload_n 3, 1) := by decide +kernel
theorem dX5_fold_95 : decode cX5_fold 95 = .ok (.invokevirtual 39, 3) := by decide +kernel
theorem dX5_fold_98 : decode cX5_fold 98 = .ok (.invokevirtual 51, 3) := by decide +kernel
theorem dX5_fold_101 : decode cX5_fold 101 = .ok (.iinc 3 1, 3) := by decide +kernel
theorem dX5_fold_104 : decode cX5_fold 104 = .ok (.goto (-66), 3) := by decide +kernel
theorem dX5_fold_107 : decode cX5_fold 107 = .ok (.return_, 1) := by decide +kernel
theorem dX5_crossing_0 : decode cX5_crossing 0 = .ok (.aload_n 0, 1) := by decide +kernel
theorem dX5_crossing_1 : decode cX5_crossing 1 = .ok (.iload_n 1, 1) := by decide +kernel
theorem dX5_crossing_2 : decode cX5_crossing 2 = .ok (.invokevirtual 39, 3) := by decide +kernel
theorem dX5_crossing_5 : decode cX5_crossing 5 = .ok (.astore 4, 2) := by decide +kernel
theorem dX5_crossing_7 : decode cX5_crossing 7 = .ok (.aload_n 0, 1) := by decide +kernel
theorem dX5_crossing_8 : decode cX5_crossing 8 = .ok (.iload_n 2, 1) := by decide +kernel
theorem dX5_crossing_9 : decode cX5_crossing 9 = .ok (.invokevirtual 39, 3) := by decide +kernel
theorem dX5_crossing_12 : decode cX5_crossing 12 = .ok (.astore 5, 2) := by decide +kernel
theorem dX5_crossing_14 : decode cX5_crossing 14 = .ok (.aload 4, 2) := by decide +kernel
theorem dX5_crossing_16 : decode cX5_crossing 16 = .ok (.getfield 66, 3) := by decide +kernel
theorem dX5_crossing_19 : decode cX5_crossing 19 = .ok (.iconst 1, 1) := by decide +kernel
theorem dX5_crossing_20 : decode cX5_crossing 20 = .ok (.ishr, 1) := by decide +kernel
theorem dX5_crossing_21 : decode cX5_crossing 21 = .ok (.istore 6, 2) := by decide +kernel
theorem dX5_crossing_23 : decode cX5_crossing 23 = .ok (.aload 5, 2) := by decide +kernel
theorem dX5_crossing_25 : decode cX5_crossing 25 = .ok (.getfield 66, 3) := by decide +kernel
theorem dX5_crossing_28 : decode cX5_crossing 28 = .ok (.iconst 1, 1) := by decide +kernel
theorem dX5_crossing_29 : decode cX5_crossing 29 = .ok (.ishr, 1) := by decide +kernel
theorem dX5_crossing_30 : decode cX5_crossing 30 = .ok (.istore 7, 2) := by decide +kernel
theorem dX5_crossing_32 : decode cX5_crossing 32 = .ok (.iload 6, 2) := by decide +kernel
theorem dX5_crossing_34 : decode cX5_crossing 34 = .ok (.iload 7, 2) := by decide +kernel
theorem dX5_crossing_36 : decode cX5_crossing 36 = .ok (.if_icmp .eq 25, 3) := by decide +kernel
theorem dX5_crossing_39 : decode cX5_crossing 39 = .ok (.aload 4, 2) := by decide +kernel
theorem dX5_crossing_41 : decode cX5_crossing 41 = .ok (.aload 5, 2) := by decide +kernel
theorem dX5_crossing_43 : decode cX5_crossing 43 = .ok (.iload_n 3, 1) := by decide +kernel
theorem dX5_crossing_44 : decode cX5_crossing 44 = .ok (.invokevirtual 69, 3) := by decide +kernel
theorem dX5_crossing_47 : decode cX5_crossing 47 = .ok (.ifCond .eq 14, 3) := by decide +kernel
theorem dX5_crossing_50 : decode cX5_crossing 50 = .ok (.aload 5, 2) := by decide +kernel
theorem dX5_crossing_52 : decode cX5_crossing 52 = .ok (.aload 4, 2) := by decide +kernel
theorem dX5_crossing_54 : decode cX5_crossing 54 = .ok (.iload_n 3, 1) := by decide +kernel
theorem dX5_crossing_55 : decode cX5_crossing 55 = .ok (.invokevirtual 69, 3) := by decide +kernel
theorem dX5_crossing_58 : decode cX5_crossing 58 = .ok (.ifCond .ne 5, 3) := by decide +kernel
theorem dX5_crossing_61 : decode cX5_crossing 61 = .ok (.iconst 0, 1) := by decide +kernel
theorem dX5_crossing_62 : decode cX5_crossing 62 = .ok (.ireturn, 1) := by decide +kernel
theorem dX5_crossing_63 : decode cX5_crossing 63 = .ok (.iconst 0, 1) := by decide +kernel
theorem dX5_crossing_64 : decode cX5_crossing 64 = .ok (.aload 4, 2) := by decide +kernel
theorem dX5_crossing_66 : decode cX5_crossing 66 = .ok (.iconst 3, 1) := by decide +kernel
theorem dX5_crossing_67 : decode cX5_crossing 67 = .ok (.iload 6, 2) := by decide +kernel
theorem dX5_crossing_69 : decode cX5_crossing 69 = .ok (.isub, 1) := by decide +kernel
theorem dX5_crossing_70 : decode cX5_crossing 70 = .ok (.iload 7, 2) := by decide +kernel
theorem dX5_crossing_72 : decode cX5_crossing 72 = .ok (.isub, 1) := by decide +kernel
theorem dX5_crossing_73 : decode cX5_crossing 73 = .ok (.aload 5, 2) := by decide +kernel
theorem dX5_crossing_75 : decode cX5_crossing 75 = .ok (.invokevirtual 73, 3) := by decide +kernel
theorem dX5_crossing_78 : decode cX5_crossing 78 = .ok (.invokestatic 77, 3) := by decide +kernel
theorem dX5_crossing_81 : decode cX5_crossing 81 = .ok (.ireturn, 1) := by decide +kernel
theorem dX5_crossingPairs_0 : decode cX5_crossingPairs 0 = .ok (.iconst 0, 1) := by decide +kernel
theorem dX5_crossingPairs_1 : decode cX5_crossingPairs 1 = .ok (.istore_n 2, 1) := by decide +kernel
theorem dX5_crossingPairs_2 : decode cX5_crossingPairs 2 = .ok (.iconst 0, 1) := by decide +kernel
theorem dX5_crossingPairs_3 : decode cX5_crossingPairs 3 = .ok (.istore_n 3, 1) := by decide +kernel
theorem dX5_crossingPairs_4 : decode cX5_crossingPairs 4 = .ok (.iload_n 3, 1) := by decide +kernel
theorem dX5_crossingPairs_5 : decode cX5_crossingPairs 5 = .ok (.aload_n 0, 1) := by decide +kernel
theorem dX5_crossingPairs_6 : decode cX5_crossingPairs 6 = .ok (.getfield 9, 3) := by decide +kernel
theorem dX5_crossingPairs_9 : decode cX5_crossingPairs 9 = .ok (.if_icmp .ge 48, 3) := by decide +kernel
theorem dX5_crossingPairs_12 : decode cX5_crossingPairs 12 = .ok (.iload_n 3, 1) := by decide +kernel
theorem dX5_crossingPairs_13 : decode cX5_crossingPairs 13 = .ok (.iconst 1, 1) := by decide +kernel
theorem dX5_crossingPairs_14 : decode cX5_crossingPairs 14 = .ok (.iadd, 1) := by decide +kernel
theorem dX5_crossingPairs_15 : decode cX5_crossingPairs 15 = .ok (.istore 4, 2) := by decide +kernel
theorem dX5_crossingPairs_17 : decode cX5_crossingPairs 17 = .ok (.iload 4, 2) := by decide +kernel
theorem dX5_crossingPairs_19 : decode cX5_crossingPairs 19 = .ok (.aload_n 0, 1) := by decide +kernel
theorem dX5_crossingPairs_20 : decode cX5_crossingPairs 20 = .ok (.getfield 9, 3) := by decide +kernel
theorem dX5_crossingPairs_23 : decode cX5_crossingPairs 23 = .ok (.if_icmp .ge 28, 3) := by decide +kernel
theorem dX5_crossingPairs_26 : decode cX5_crossingPairs 26 = .ok (.iload_n 2, 1) := by decide +kernel
theorem dX5_crossingPairs_27 : decode cX5_crossingPairs 27 = .ok (.aload_n 0, 1) := by decide +kernel
theorem dX5_crossingPairs_28 : decode cX5_crossingPairs 28 = .ok (.iload_n 3, 1) := by decide +kernel
theorem dX5_crossingPairs_29 : decode cX5_crossingPairs 29 = .ok (.iload 4, 2) := by decide +kernel
theorem dX5_crossingPairs_31 : decode cX5_crossingPairs 31 = .ok (.iload_n 1, 1) := by decide +kernel
theorem dX5_crossingPairs_32 : decode cX5_crossingPairs 32 = .ok (.invokevirtual 83, 3) := by decide +kernel
theorem dX5_crossingPairs_35 : decode cX5_crossingPairs 35 = .ok (.ifCond .le 7, 3) := by decide +kernel
theorem dX5_crossingPairs_38 : decode cX5_crossingPairs 38 = .ok (.iconst 1, 1) := by decide +kernel
theorem dX5_crossingPairs_39 : decode cX5_crossingPairs 39 = .ok (.goto 4, 3) := by decide +kernel
theorem dX5_crossingPairs_42 : decode cX5_crossingPairs 42 = .ok (.iconst 0, 1) := by decide +kernel
theorem dX5_crossingPairs_43 : decode cX5_crossingPairs 43 = .ok (.iadd, 1) := by decide +kernel
theorem dX5_crossingPairs_44 : decode cX5_crossingPairs 44 = .ok (.istore_n 2, 1) := by decide +kernel
theorem dX5_crossingPairs_45 : decode cX5_crossingPairs 45 = .ok (.iinc 4 1, 3) := by decide +kernel
theorem dX5_crossingPairs_48 : decode cX5_crossingPairs 48 = .ok (.goto (-31), 3) := by decide +kernel
theorem dX5_crossingPairs_51 : decode cX5_crossingPairs 51 = .ok (.iinc 3 1, 3) := by decide +kernel
theorem dX5_crossingPairs_54 : decode cX5_crossingPairs 54 = .ok (.goto (-50), 3) := by decide +kernel
theorem dX5_crossingPairs_57 : decode cX5_crossingPairs 57 = .ok (.iload_n 2, 1) := by decide +kernel
theorem dX5_crossingPairs_58 : decode cX5_crossingPairs 58 = .ok (.ireturn, 1) := by decide +kernel
theorem dX5_doubled_0 : decode cX5_doubled 0 = .ok (.aload_n 0, 1) := by decide +kernel
theorem dX5_doubled_1 : decode cX5_doubled 1 = .ok (.iload_n 1, 1) := by decide +kernel
theorem dX5_doubled_2 : decode cX5_doubled 2 = .ok (.invokevirtual 39, 3) := by decide +kernel
theorem dX5_doubled_5 : decode cX5_doubled 5 = .ok (.astore 4, 2) := by decide +kernel
theorem dX5_doubled_7 : decode cX5_doubled 7 = .ok (.aload_n 0, 1) := by decide +kernel
theorem dX5_doubled_8 : decode cX5_doubled 8 = .ok (.iload_n 2, 1) := by decide +kernel
theorem dX5_doubled_9 : decode cX5_doubled 9 = .ok (.invokevirtual 39, 3) := by decide +kernel
theorem dX5_doubled_12 : decode cX5_doubled 12 = .ok (.astore 5, 2) := by decide +kernel
theorem dX5_doubled_14 : decode cX5_doubled 14 = .ok (.aload 4, 2) := by decide +kernel
theorem dX5_doubled_16 : decode cX5_doubled 16 = .ok (.getfield 66, 3) := by decide +kernel
theorem dX5_doubled_19 : decode cX5_doubled 19 = .ok (.iconst 1, 1) := by decide +kernel
theorem dX5_doubled_20 : decode cX5_doubled 20 = .ok (.ishr, 1) := by decide +kernel
theorem dX5_doubled_21 : decode cX5_doubled 21 = .ok (.istore 6, 2) := by decide +kernel
theorem dX5_doubled_23 : decode cX5_doubled 23 = .ok (.iload 6, 2) := by decide +kernel
theorem dX5_doubled_25 : decode cX5_doubled 25 = .ok (.aload 5, 2) := by decide +kernel
theorem dX5_doubled_27 : decode cX5_doubled 27 = .ok (.getfield 66, 3) := by decide +kernel
theorem dX5_doubled_30 : decode cX5_doubled 30 = .ok (.iconst 1, 1) := by decide +kernel
theorem dX5_doubled_31 : decode cX5_doubled 31 = .ok (.ishr, 1) := by decide +kernel
theorem dX5_doubled_32 : decode cX5_doubled 32 = .ok (.if_icmp .ne 25, 3) := by decide +kernel
theorem dX5_doubled_35 : decode cX5_doubled 35 = .ok (.aload 4, 2) := by decide +kernel
theorem dX5_doubled_37 : decode cX5_doubled 37 = .ok (.iload 6, 2) := by decide +kernel
theorem dX5_doubled_39 : decode cX5_doubled 39 = .ok (.invokevirtual 87, 3) := by decide +kernel
theorem dX5_doubled_42 : decode cX5_doubled 42 = .ok (.aload 5, 2) := by decide +kernel
theorem dX5_doubled_44 : decode cX5_doubled 44 = .ok (.iload 6, 2) := by decide +kernel
theorem dX5_doubled_46 : decode cX5_doubled 46 = .ok (.invokevirtual 87, 3) := by decide +kernel
theorem dX5_doubled_49 : decode cX5_doubled 49 = .ok (.isub, 1) := by decide +kernel
theorem dX5_doubled_50 : decode cX5_doubled 50 = .ok (.invokestatic 91, 3) := by decide +kernel
theorem dX5_doubled_53 : decode cX5_doubled 53 = .ok (.iload_n 3, 1) := by decide +kernel
theorem dX5_doubled_54 : decode cX5_doubled 54 = .ok (.if_icmp .le 5, 3) := by decide +kernel
theorem dX5_doubled_57 : decode cX5_doubled 57 = .ok (.iconst 0, 1) := by decide +kernel
theorem dX5_doubled_58 : decode cX5_doubled 58 = .ok (.ireturn, 1) := by decide +kernel
theorem dX5_doubled_59 : decode cX5_doubled 59 = .ok (.aload 4, 2) := by decide +kernel
theorem dX5_doubled_61 : decode cX5_doubled 61 = .ok (.iload 6, 2) := by decide +kernel
theorem dX5_doubled_63 : decode cX5_doubled 63 = .ok (.iconst 1, 1) := by decide +kernel
theorem dX5_doubled_64 : decode cX5_doubled 64 = .ok (.iadd, 1) := by decide +kernel
theorem dX5_doubled_65 : decode cX5_doubled 65 = .ok (.iconst 3, 1) := by decide +kernel
theorem dX5_doubled_66 : decode cX5_doubled 66 = .ok (.irem, 1) := by decide +kernel
theorem dX5_doubled_67 : decode cX5_doubled 67 = .ok (.aload 5, 2) := by decide +kernel
theorem dX5_doubled_69 : decode cX5_doubled 69 = .ok (.invokevirtual 73, 3) := by decide +kernel
theorem dX5_doubled_72 : decode cX5_doubled 72 = .ok (.istore 7, 2) := by decide +kernel
theorem dX5_doubled_74 : decode cX5_doubled 74 = .ok (.aload 4, 2) := by decide +kernel
theorem dX5_doubled_76 : decode cX5_doubled 76 = .ok (.iload 6, 2) := by decide +kernel
theorem dX5_doubled_78 : decode cX5_doubled 78 = .ok (.iconst 2, 1) := by decide +kernel
theorem dX5_doubled_79 : decode cX5_doubled 79 = .ok (.iadd, 1) := by decide +kernel
theorem dX5_doubled_80 : decode cX5_doubled 80 = .ok (.iconst 3, 1) := by decide +kernel
theorem dX5_doubled_81 : decode cX5_doubled 81 = .ok (.irem, 1) := by decide +kernel
theorem dX5_doubled_82 : decode cX5_doubled 82 = .ok (.aload 5, 2) := by decide +kernel
theorem dX5_doubled_84 : decode cX5_doubled 84 = .ok (.invokevirtual 73, 3) := by decide +kernel
theorem dX5_doubled_87 : decode cX5_doubled 87 = .ok (.istore 8, 2) := by decide +kernel
theorem dX5_doubled_89 : decode cX5_doubled 89 = .ok (.iload 7, 2) := by decide +kernel
theorem dX5_doubled_91 : decode cX5_doubled 91 = .ok (.ifCond .le 16, 3) := by decide +kernel
theorem dX5_doubled_94 : decode cX5_doubled 94 = .ok (.iload 8, 2) := by decide +kernel
theorem dX5_doubled_96 : decode cX5_doubled 96 = .ok (.ifCond .le 11, 3) := by decide +kernel
theorem dX5_doubled_99 : decode cX5_doubled 99 = .ok (.iload 7, 2) := by decide +kernel
theorem dX5_doubled_101 : decode cX5_doubled 101 = .ok (.iload 8, 2) := by decide +kernel
theorem dX5_doubled_103 : decode cX5_doubled 103 = .ok (.imul, 1) := by decide +kernel
theorem dX5_doubled_104 : decode cX5_doubled 104 = .ok (.goto 4, 3) := by decide +kernel
theorem dX5_doubled_107 : decode cX5_doubled 107 = .ok (.iconst 0, 1) := by decide +kernel
theorem dX5_doubled_108 : decode cX5_doubled 108 = .ok (.ireturn, 1) := by decide +kernel
theorem dX5_covered_0 : decode cX5_covered 0 = .ok (.aload_n 1, 1) := by decide +kernel
theorem dX5_covered_1 : decode cX5_covered 1 = .ok (.iload_n 2, 1) := by decide +kernel
theorem dX5_covered_2 : decode cX5_covered 2 = .ok (.invokevirtual 43, 3) := by decide +kernel
theorem dX5_covered_5 : decode cX5_covered 5 = .ok (.astore 4, 2) := by decide +kernel
theorem dX5_covered_7 : decode cX5_covered 7 = .ok (.aload 4, 2) := by decide +kernel
theorem dX5_covered_9 : decode cX5_covered 9 = .ok (.getfield 94, 3) := by decide +kernel
theorem dX5_covered_12 : decode cX5_covered 12 = .ok (.aload 4, 2) := by decide +kernel
theorem dX5_covered_14 : decode cX5_covered 14 = .ok (.getfield 97, 3) := by decide +kernel
theorem dX5_covered_17 : decode cX5_covered 17 = .ok (.imul, 1) := by decide +kernel
theorem dX5_covered_18 : decode cX5_covered 18 = .ok (.istore 5, 2) := by decide +kernel
theorem dX5_covered_20 : decode cX5_covered 20 = .ok (.iload 5, 2) := by decide +kernel
theorem dX5_covered_22 : decode cX5_covered 22 = .ok (.ifCond .le 26, 3) := by decide +kernel
theorem dX5_covered_25 : decode cX5_covered 25 = .ok (.aload_n 0, 1) := by decide +kernel
theorem dX5_covered_26 : decode cX5_covered 26 = .ok (.iload_n 2, 1) := by decide +kernel
theorem dX5_covered_27 : decode cX5_covered 27 = .ok (.invokevirtual 39, 3) := by decide +kernel
theorem dX5_covered_30 : decode cX5_covered 30 = .ok (.getfield 66, 3) := by decide +kernel
theorem dX5_covered_33 : decode cX5_covered 33 = .ok (.aload_n 0, 1) := by decide +kernel
theorem dX5_covered_34 : decode cX5_covered 34 = .ok (.aload 4, 2) := by decide +kernel
theorem dX5_covered_36 : decode cX5_covered 36 = .ok (.getfield 100, 3) := by decide +kernel
theorem dX5_covered_39 : decode cX5_covered 39 = .ok (.invokevirtual 39, 3) := by decide +kernel
theorem dX5_covered_42 : decode cX5_covered 42 = .ok (.getfield 66, 3) := by decide +kernel
theorem dX5_covered_45 : decode cX5_covered 45 = .ok (.if_icmp .eq 5, 3) := by decide +kernel
theorem dX5_covered_48 : decode cX5_covered 48 = .ok (.iconst 0, 1) := by decide +kernel
theorem dX5_covered_49 : decode cX5_covered 49 = .ok (.ireturn, 1) := by decide +kernel
theorem dX5_covered_50 : decode cX5_covered 50 = .ok (.bipush 100, 2) := by decide +kernel
theorem dX5_covered_52 : decode cX5_covered 52 = .ok (.aload_n 0, 1) := by decide +kernel
theorem dX5_covered_53 : decode cX5_covered 53 = .ok (.iload_n 2, 1) := by decide +kernel
theorem dX5_covered_54 : decode cX5_covered 54 = .ok (.aload 4, 2) := by decide +kernel
theorem dX5_covered_56 : decode cX5_covered 56 = .ok (.getfield 100, 3) := by decide +kernel
theorem dX5_covered_59 : decode cX5_covered 59 = .ok (.iload_n 3, 1) := by decide +kernel
theorem dX5_covered_60 : decode cX5_covered 60 = .ok (.invokevirtual 103, 3) := by decide +kernel
theorem dX5_covered_63 : decode cX5_covered 63 = .ok (.imul, 1) := by decide +kernel
theorem dX5_covered_64 : decode cX5_covered 64 = .ok (.iload 5, 2) := by decide +kernel
theorem dX5_covered_66 : decode cX5_covered 66 = .ok (.idiv, 1) := by decide +kernel
theorem dX5_covered_67 : decode cX5_covered 67 = .ok (.ireturn, 1) := by decide +kernel
theorem dX5_enclosed_0 : decode cX5_enclosed 0 = .ok (.lconst 0, 1) := by decide +kernel
theorem dX5_enclosed_1 : decode cX5_enclosed 1 = .ok (.lstore_n 2, 1) := by decide +kernel
theorem dX5_enclosed_2 : decode cX5_enclosed 2 = .ok (.iconst 0, 1) := by decide +kernel
theorem dX5_enclosed_3 : decode cX5_enclosed 3 = .ok (.istore 4, 2) := by decide +kernel
theorem dX5_enclosed_5 : decode cX5_enclosed 5 = .ok (.iload 4, 2) := by decide +kernel
theorem dX5_enclosed_7 : decode cX5_enclosed 7 = .ok (.aload_n 0, 1) := by decide +kernel
theorem dX5_enclosed_8 : decode cX5_enclosed 8 = .ok (.getfield 9, 3) := by decide +kernel
theorem dX5_enclosed_11 : decode cX5_enclosed 11 = .ok (.if_icmp .ge 83, 3) := by decide +kernel
theorem dX5_enclosed_14 : decode cX5_enclosed 14 = .ok (.aload_n 1, 1) := by decide +kernel
theorem dX5_enclosed_15 : decode cX5_enclosed 15 = .ok (.iload 4, 2) := by decide +kernel
theorem dX5_enclosed_17 : decode cX5_enclosed 17 = .ok (.invokevirtual 43, 3) := by decide +kernel
theorem dX5_enclosed_20 : decode cX5_enclosed 20 = .ok (.astore 5, 2) := by decide +kernel
theorem dX5_enclosed_22 : decode cX5_enclosed 22 = .ok (.aload_n 0, 1) := by decide +kernel
theorem dX5_enclosed_23 : decode cX5_enclosed 23 = .ok (.iload 4, 2) := by decide +kernel
theorem dX5_enclosed_25 : decode cX5_enclosed 25 = .ok (.invokevirtual 39, 3) := by decide +kernel
theorem dX5_enclosed_28 : decode cX5_enclosed 28 = .ok (.astore 6, 2) := by decide +kernel
theorem dX5_enclosed_30 : decode cX5_enclosed 30 = .ok (.aload 5, 2) := by decide +kernel
theorem dX5_enclosed_32 : decode cX5_enclosed 32 = .ok (.getfield 94, 3) := by decide +kernel
theorem dX5_enclosed_35 : decode cX5_enclosed 35 = .ok (.i2l, 1) := by decide +kernel
theorem dX5_enclosed_36 : decode cX5_enclosed 36 = .ok (.aload 5, 2) := by decide +kernel
theorem dX5_enclosed_38 : decode cX5_enclosed 38 = .ok (.getfield 97, 3) := by decide +kernel
theorem dX5_enclosed_41 : decode cX5_enclosed 41 = .ok (.i2l, 1) := by decide +kernel
theorem dX5_enclosed_42 : decode cX5_enclosed 42 = .ok (.lmul, 1) := by decide +kernel
theorem dX5_enclosed_43 : decode cX5_enclosed 43 = .ok (.aload 6, 2) := by decide +kernel
theorem dX5_enclosed_45 : decode cX5_enclosed 45 = .ok (.aload 6, 2) := by decide +kernel
theorem dX5_enclosed_47 : decode cX5_enclosed 47 = .ok (.getfield 66, 3) := by decide +kernel
theorem dX5_enclosed_50 : decode cX5_enclosed 50 = .ok (.iconst 1, 1) := by decide +kernel
theorem dX5_enclosed_51 : decode cX5_enclosed 51 = .ok (.ishr, 1) := by decide +kernel
theorem dX5_enclosed_52 : decode cX5_enclosed 52 = .ok (.invokevirtual 87, 3) := by decide +kernel
theorem dX5_enclosed_55 : decode cX5_enclosed 55 = .ok (.i2l, 1) := by decide +kernel
theorem dX5_enclosed_56 : decode cX5_enclosed 56 = .ok (.lmul, 1) := by decide +kernel
theorem dX5_enclosed_57 : decode cX5_enclosed 57 = .ok (.lstore 7, 2) := by decide +kernel
theorem dX5_enclosed_59 : decode cX5_enclosed 59 = .ok (.aload 5, 2) := by decide +kernel
theorem dX5_enclosed_61 : decode cX5_enclosed 61 = .ok (.invokevirtual 106, 3) := by decide +kernel
theorem dX5_enclosed_64 : decode cX5_enclosed 64 = .ok (.ifCond .ne 24, 3) := by decide +kernel
theorem dX5_enclosed_67 : decode cX5_enclosed 67 = .ok (.lload_n 2, 1) := by decide +kernel
theorem dX5_enclosed_68 : decode cX5_enclosed 68 = .ok (.aload 6, 2) := by decide +kernel
theorem dX5_enclosed_70 : decode cX5_enclosed 70 = .ok (.getfield 66, 3) := by decide +kernel
theorem dX5_enclosed_73 : decode cX5_enclosed 73 = .ok (.iconst 1, 1) := by decide +kernel
theorem dX5_enclosed_74 : decode cX5_enclosed 74 = .ok (.iand, 1) := by decide +kernel
theorem dX5_enclosed_75 : decode cX5_enclosed 75 = .ok (.ifCond .ne 8, 3) := by decide +kernel
theorem dX5_enclosed_78 : decode cX5_enclosed 78 = .ok (.lload 7, 2) := by decide +kernel
theorem dX5_enclosed_80 : decode cX5_enclosed 80 = .ok (.goto 6, 3) := by decide +kernel
theorem dX5_enclosed_83 : decode cX5_enclosed 83 = .ok (.lload 7, 2) := by decide +kernel
theorem dX5_enclosed_85 : decode cX5_enclosed 85 = .ok (.lneg, 1) := by decide +kernel
theorem dX5_enclosed_86 : decode cX5_enclosed 86 = .ok (.ladd, 1) := by decide +kernel
theorem dX5_enclosed_87 : decode cX5_enclosed 87 = .ok (.lstore_n 2, 1) := by decide +kernel
theorem dX5_enclosed_88 : decode cX5_enclosed 88 = .ok (.iinc 4 1, 3) := by decide +kernel
theorem dX5_enclosed_91 : decode cX5_enclosed 91 = .ok (.goto (-86), 3) := by decide +kernel
theorem dX5_enclosed_94 : decode cX5_enclosed 94 = .ok (.lload_n 2, 1) := by decide +kernel
theorem dX5_enclosed_95 : decode cX5_enclosed 95 = .ok (.invokestatic 110, 3) := by decide +kernel
theorem dX5_enclosed_98 : decode cX5_enclosed 98 = .ok (.ldc2_w 113, 3) := by decide +kernel
theorem dX5_enclosed_101 : decode cX5_enclosed 101 = .ok (.ldiv, 1) := by decide +kernel
theorem dX5_enclosed_102 : decode cX5_enclosed 102 = .ok (.lreturn, 1) := by decide +kernel
theorem dX5_findOrder_0 : decode cX5_findOrder 0 = .ok (.iconst 0, 1) := by decide +kernel
theorem dX5_findOrder_1 : decode cX5_findOrder 1 = .ok (.istore_n 3, 1) := by decide +kernel
theorem dX5_findOrder_2 : decode cX5_findOrder 2 = .ok (.iconst 1, 1) := by decide +kernel
theorem dX5_findOrder_3 : decode cX5_findOrder 3 = .ok (.istore 4, 2) := by decide +kernel
theorem dX5_findOrder_5 : decode cX5_findOrder 5 = .ok (.iload 4, 2) := by decide +kernel
theorem dX5_findOrder_7 : decode cX5_findOrder 7 = .ok (.aload_n 1, 1) := by decide +kernel
theorem dX5_findOrder_8 : decode cX5_findOrder 8 = .ok (.getfield 34, 3) := by decide +kernel
theorem dX5_findOrder_11 : decode cX5_findOrder 11 = .ok (.if_icmp .ge 32, 3) := by decide +kernel
theorem dX5_findOrder_14 : decode cX5_findOrder 14 = .ok (.iload_n 3, 1) := by decide +kernel
theorem dX5_findOrder_15 : decode cX5_findOrder 15 = .ok (.aload_n 1, 1) := by decide +kernel
theorem dX5_findOrder_16 : decode cX5_findOrder 16 = .ok (.iload 4, 2) := by decide +kernel
theorem dX5_findOrder_18 : decode cX5_findOrder 18 = .ok (.invokevirtual 43, 3) := by decide +kernel
theorem dX5_findOrder_21 : decode cX5_findOrder 21 = .ok (.getfield 54, 3) := by decide +kernel
theorem dX5_findOrder_24 : decode cX5_findOrder 24 = .ok (.ifCond .eq 10, 3) := by decide +kernel
theorem dX5_findOrder_27 : decode cX5_findOrder 27 = .ok (.iconst 1, 1) := by decide +kernel
theorem dX5_findOrder_28 : decode cX5_findOrder 28 = .ok (.iload 4, 2) := by decide +kernel
theorem dX5_findOrder_30 : decode cX5_findOrder 30 = .ok (.ishl, 1) := by decide +kernel
theorem dX5_findOrder_31 : decode cX5_findOrder 31 = .ok (.goto 4, 3) := by decide +kernel
theorem dX5_findOrder_34 : decode cX5_findOrder 34 = .ok (.iconst 0, 1) := by decide +kernel
theorem dX5_findOrder_35 : decode cX5_findOrder 35 = .ok (.ior, 1) := by decide +kernel
theorem dX5_findOrder_36 : decode cX5_findOrder 36 = .ok (.istore_n 3, 1) := by decide +kernel
theorem dX5_findOrder_37 : decode cX5_findOrder 37 = .ok (.iinc 4 1, 3) := by decide +kernel
theorem dX5_findOrder_40 : decode cX5_findOrder 40 = .ok (.goto (-35), 3) := by decide +kernel
theorem dX5_findOrder_43 : decode cX5_findOrder 43 = .ok (.iconst 0, 1) := by decide +kernel
theorem dX5_findOrder_44 : decode cX5_findOrder 44 = .ok (.istore 4, 2) := by decide +kernel
theorem dX5_findOrder_46 : decode cX5_findOrder 46 = .ok (.iload 4, 2) := by decide +kernel
theorem dX5_findOrder_48 : decode cX5_findOrder 48 = .ok (.iload_n 3, 1) := by decide +kernel
theorem dX5_findOrder_49 : decode cX5_findOrder 49 = .ok (.if_icmp .gt 27, 3) := by decide +kernel
theorem dX5_findOrder_52 : decode cX5_findOrder 52 = .ok (.iload 4, 2) := by decide +kernel
theorem dX5_findOrder_54 : decode cX5_findOrder 54 = .ok (.aload_n 0, 1) := by decide +kernel
theorem dX5_findOrder_55 : decode cX5_findOrder 55 = .ok (.getfield 30, 3) := by decide +kernel
theorem dX5_findOrder_58 : decode cX5_findOrder 58 = .ok (.arraylength, 1) := by decide +kernel
theorem dX5_findOrder_59 : decode cX5_findOrder 59 = .ok (.if_icmp .ge 17, 3) := by decide +kernel
theorem dX5_findOrder_62 : decode cX5_findOrder 62 = .ok (.aload_n 0, 1) := by decide +kernel
theorem dX5_findOrder_63 : decode cX5_findOrder 63 = .ok (.getfield 30, 3) := by decide +kernel
theorem dX5_findOrder_66 : decode cX5_findOrder 66 = .ok (.iload 4, 2) := by decide +kernel
theorem dX5_findOrder_68 : decode cX5_findOrder 68 = .ok (.iconst 0, 1) := by decide +kernel
theorem dX5_findOrder_69 : decode cX5_findOrder 69 = .ok (.bastore, 1) := by decide +kernel
theorem dX5_findOrder_70 : decode cX5_findOrder 70 = .ok (.iinc 4 1, 3) := by decide +kernel
theorem dX5_findOrder_73 : decode cX5_findOrder 73 = .ok (.goto (-27), 3) := by decide +kernel
theorem dX5_findOrder_76 : decode cX5_findOrder 76 = .ok (.iconst 0, 1) := by decide +kernel
theorem dX5_findOrder_77 : decode cX5_findOrder 77 = .ok (.istore 4, 2) := by decide +kernel
theorem dX5_findOrder_79 : decode cX5_findOrder 79 = .ok (.iconst 0, 1) := by decide +kernel
theorem dX5_findOrder_80 : decode cX5_findOrder 80 = .ok (.istore 5, 2) := by decide +kernel
theorem dX5_findOrder_82 : decode cX5_findOrder 82 = .ok (.iconst 0, 1) := by decide +kernel
theorem dX5_findOrder_83 : decode cX5_findOrder 83 = .ok (.istore 6, 2) := by decide +kernel
theorem dX5_findOrder_85 : decode cX5_findOrder 85 = .ok (.iload 6, 2) := by decide +kernel
theorem dX5_findOrder_87 : decode cX5_findOrder 87 = .ok (.iconst 4, 1) := by decide +kernel
theorem dX5_findOrder_88 : decode cX5_findOrder 88 = .ok (.aload_n 0, 1) := by decide +kernel
theorem dX5_findOrder_89 : decode cX5_findOrder 89 = .ok (.getfield 30, 3) := by decide +kernel
theorem dX5_findOrder_92 : decode cX5_findOrder 92 = .ok (.arraylength, 1) := by decide +kernel
theorem dX5_findOrder_93 : decode cX5_findOrder 93 = .ok (.imul, 1) := by decide +kernel
theorem dX5_findOrder_94 : decode cX5_findOrder 94 = .ok (.if_icmp .ge 119, 3) := by decide +kernel
theorem dX5_findOrder_97 : decode cX5_findOrder 97 = .ok (.iload 4, 2) := by decide +kernel
theorem dX5_findOrder_99 : decode cX5_findOrder 99 = .ok (.iload_n 3, 1) := by decide +kernel
theorem dX5_findOrder_100 : decode cX5_findOrder 100 = .ok (.if_icmp .eq 113, 3) := by decide +kernel
theorem dX5_findOrder_103 : decode cX5_findOrder 103 = .ok (.aload_n 0, 1) := by decide +kernel
theorem dX5_findOrder_104 : decode cX5_findOrder 104 = .ok (.aload_n 1, 1) := by decide +kernel
theorem dX5_findOrder_105 : decode cX5_findOrder 105 = .ok (.iload 4, 2) := by decide +kernel
theorem dX5_findOrder_107 : decode cX5_findOrder 107 = .ok (.iload_n 3, 1) := by decide +kernel
theorem dX5_findOrder_108 : decode cX5_findOrder 108 = .ok (.iload 4, 2) := by decide +kernel
theorem dX5_findOrder_110 : decode cX5_findOrder 110 = .ok (.iconst (-1), 1) := by decide +kernel
theorem dX5_findOrder_111 : decode cX5_findOrder 111 = .ok (.ixor, 1) := by decide +kernel
theorem dX5_findOrder_112 : decode cX5_findOrder 112 = .ok (.iand, 1) := by decide +kernel
theorem dX5_findOrder_113 : decode cX5_findOrder 113 = .ok (.iload_n 2, 1) := by decide +kernel
theorem dX5_findOrder_114 : decode cX5_findOrder 114 = .ok (.invokevirtual 115, 3) := by decide +kernel
theorem dX5_findOrder_117 : decode cX5_findOrder 117 = .ok (.istore 7, 2) := by decide +kernel
theorem dX5_findOrder_119 : decode cX5_findOrder 119 = .ok (.iload 7, 2) := by decide +kernel
theorem dX5_findOrder_121 : decode cX5_findOrder 121 = .ok (.bipush (-9), 2) := by decide +kernel
theorem dX5_findOrder_123 : decode cX5_findOrder 123 = .ok (.if_icmp .eq 37, 3) := by decide +kernel
theorem dX5_findOrder_126 : decode cX5_findOrder 126 = .ok (.iload 5, 2) := by decide +kernel
theorem dX5_findOrder_128 : decode cX5_findOrder 128 = .ok (.aload_n 0, 1) := by decide +kernel
theorem dX5_findOrder_129 : decode cX5_findOrder 129 = .ok (.getfield 26, 3) := by decide +kernel
theorem dX5_findOrder_132 : decode cX5_findOrder 132 = .ok (.arraylength, 1) := by decide +kernel
theorem dX5_findOrder_133 : decode cX5_findOrder 133 = .ok (.if_icmp .ge 27, 3) := by decide +kernel
theorem dX5_findOrder_136 : decode cX5_findOrder 136 = .ok (.aload_n 0, 1) := by decide +kernel
theorem dX5_findOrder_137 : decode cX5_findOrder 137 = .ok (.getfield 26, 3) := by decide +kernel
theorem dX5_findOrder_140 : decode cX5_findOrder 140 = .ok (.iload 5, 2) := by decide +kernel
theorem dX5_findOrder_142 : decode cX5_findOrder 142 = .ok (.iload 7, 2) := by decide +kernel
theorem dX5_findOrder_144 : decode cX5_findOrder 144 = .ok (.iastore, 1) := by decide +kernel
theorem dX5_findOrder_145 : decode cX5_findOrder 145 = .ok (.iinc 5 1, 3) := by decide +kernel
theorem dX5_findOrder_148 : decode cX5_findOrder 148 = .ok (.iload 4, 2) := by decide +kernel
theorem dX5_findOrder_150 : decode cX5_findOrder 150 = .ok (.iconst 1, 1) := by decide +kernel
theorem dX5_findOrder_151 : decode cX5_findOrder 151 = .ok (.iload 7, 2) := by decide +kernel
theorem dX5_findOrder_153 : decode cX5_findOrder 153 = .ok (.ishl, 1) := by decide +kernel
theorem dX5_findOrder_154 : decode cX5_findOrder 154 = .ok (.ior, 1) := by decide +kernel
theorem dX5_findOrder_155 : decode cX5_findOrder 155 = .ok (.istore 4, 2) := by decide +kernel
theorem dX5_findOrder_157 : decode cX5_findOrder 157 = .ok (.goto 50, 3) := by decide +kernel
theorem dX5_findOrder_160 : decode cX5_findOrder 160 = .ok (.iload 5, 2) := by decide +kernel
theorem dX5_findOrder_162 : decode cX5_findOrder 162 = .ok (.ifCond .le 43, 3) := by decide +kernel
theorem dX5_findOrder_165 : decode cX5_findOrder 165 = .ok (.iload 4, 2) := by decide +kernel
theorem dX5_findOrder_167 : decode cX5_findOrder 167 = .ok (.aload_n 0, 1) := by decide +kernel
theorem dX5_findOrder_168 : decode cX5_findOrder 168 = .ok (.getfield 30, 3) := by decide +kernel
theorem dX5_findOrder_171 : decode cX5_findOrder 171 = .ok (.arraylength, 1) := by decide +kernel
theorem dX5_findOrder_172 : decode cX5_findOrder 172 = .ok (.if_icmp .ge 33, 3) := by decide +kernel
theorem dX5_findOrder_175 : decode cX5_findOrder 175 = .ok (.aload_n 0, 1) := by decide +kernel
theorem dX5_findOrder_176 : decode cX5_findOrder 176 = .ok (.getfield 30, 3) := by decide +kernel
theorem dX5_findOrder_179 : decode cX5_findOrder 179 = .ok (.iload 4, 2) := by decide +kernel
theorem dX5_findOrder_181 : decode cX5_findOrder 181 = .ok (.iconst 1, 1) := by decide +kernel
theorem dX5_findOrder_182 : decode cX5_findOrder 182 = .ok (.bastore, 1) := by decide +kernel
theorem dX5_findOrder_183 : decode cX5_findOrder 183 = .ok (.iinc 5 (-1), 3) := by decide +kernel
theorem dX5_findOrder_186 : decode cX5_findOrder 186 = .ok (.iload 4, 2) := by decide +kernel
theorem dX5_findOrder_188 : decode cX5_findOrder 188 = .ok (.iconst 1, 1) := by decide +kernel
theorem dX5_findOrder_189 : decode cX5_findOrder 189 = .ok (.aload_n 0, 1) := by decide +kernel
theorem dX5_findOrder_190 : decode cX5_findOrder 190 = .ok (.getfield 26, 3) := by decide +kernel
theorem dX5_findOrder_193 : decode cX5_findOrder 193 = .ok (.iload 5, 2) := by decide +kernel
theorem dX5_findOrder_195 : decode cX5_findOrder 195 = .ok (.iaload, 1) := by decide +kernel
theorem dX5_findOrder_196 : decode cX5_findOrder 196 = .ok (.ishl, 1) := by decide +kernel
theorem dX5_findOrder_197 : decode cX5_findOrder 197 = .ok (.iconst (-1), 1) := by decide +kernel
theorem dX5_findOrder_198 : decode cX5_findOrder 198 = .ok (.ixor, 1) := by decide +kernel
theorem dX5_findOrder_199 : decode cX5_findOrder 199 = .ok (.iand, 1) := by decide +kernel
theorem dX5_findOrder_200 : decode cX5_findOrder 200 = .ok (.istore 4, 2) := by decide +kernel
theorem dX5_findOrder_202 : decode cX5_findOrder 202 = .ok (.goto 5, 3) := by decide +kernel
theorem dX5_findOrder_205 : decode cX5_findOrder 205 = .ok (.iconst 0, 1) := by decide +kernel
theorem dX5_findOrder_206 : decode cX5_findOrder 206 = .ok (.ireturn, 1) := by decide +kernel
theorem dX5_findOrder_207 : decode cX5_findOrder 207 = .ok (.iinc 6 1, 3) := by decide +kernel
theorem dX5_findOrder_210 : decode cX5_findOrder 210 = .ok (.goto (-125), 3) := by decide +kernel
theorem dX5_findOrder_213 : decode cX5_findOrder 213 = .ok (.iload 4, 2) := by decide +kernel
theorem dX5_findOrder_215 : decode cX5_findOrder 215 = .ok (.iload_n 3, 1) := by decide +kernel
theorem dX5_findOrder_216 : decode cX5_findOrder 216 = .ok (.if_icmp .ne 8, 3) := by decide +kernel
theorem dX5_findOrder_219 : decode cX5_findOrder 219 = .ok (.iload 5, 2) := by decide +kernel
theorem dX5_findOrder_221 : decode cX5_findOrder 221 = .ok (.goto 4, 3) := by decide +kernel
theorem dX5_findOrder_224 : decode cX5_findOrder 224 = .ok (.iconst 0, 1) := by decide +kernel
theorem dX5_findOrder_225 : decode cX5_findOrder 225 = .ok (.ireturn, 1) := by decide +kernel
theorem dX5_nextFold_0 : decode cX5_nextFold 0 = .ok (.iconst 1, 1) := by decide +kernel
theorem dX5_nextFold_1 : decode cX5_nextFold 1 = .ok (.istore 5, 2) := by decide +kernel
theorem dX5_nextFold_3 : decode cX5_nextFold 3 = .ok (.iload 5, 2) := by decide +kernel
theorem dX5_nextFold_5 : decode cX5_nextFold 5 = .ok (.bipush 10, 2) := by decide +kernel
theorem dX5_nextFold_7 : decode cX5_nextFold 7 = .ok (.if_icmp .ge 73, 3) := by decide +kernel
theorem dX5_nextFold_10 : decode cX5_nextFold 10 = .ok (.iload_n 2, 1) := by decide +kernel
theorem dX5_nextFold_11 : decode cX5_nextFold 11 = .ok (.iconst 1, 1) := by decide +kernel
theorem dX5_nextFold_12 : decode cX5_nextFold 12 = .ok (.iload 5, 2) := by decide +kernel
theorem dX5_nextFold_14 : decode cX5_nextFold 14 = .ok (.ishl, 1) := by decide +kernel
theorem dX5_nextFold_15 : decode cX5_nextFold 15 = .ok (.ior, 1) := by decide +kernel
theorem dX5_nextFold_16 : decode cX5_nextFold 16 = .ok (.istore 6, 2) := by decide +kernel
theorem dX5_nextFold_18 : decode cX5_nextFold 18 = .ok (.iload_n 3, 1) := by decide +kernel
theorem dX5_nextFold_19 : decode cX5_nextFold 19 = .ok (.iconst 1, 1) := by decide +kernel
theorem dX5_nextFold_20 : decode cX5_nextFold 20 = .ok (.iload 5, 2) := by decide +kernel
theorem dX5_nextFold_22 : decode cX5_nextFold 22 = .ok (.ishl, 1) := by decide +kernel
theorem dX5_nextFold_23 : decode cX5_nextFold 23 = .ok (.iand, 1) := by decide +kernel
theorem dX5_nextFold_24 : decode cX5_nextFold 24 = .ok (.ifCond .eq 50, 3) := by decide +kernel
theorem dX5_nextFold_27 : decode cX5_nextFold 27 = .ok (.iload 6, 2) := by decide +kernel
theorem dX5_nextFold_29 : decode cX5_nextFold 29 = .ok (.aload_n 0, 1) := by decide +kernel
theorem dX5_nextFold_30 : decode cX5_nextFold 30 = .ok (.getfield 30, 3) := by decide +kernel
theorem dX5_nextFold_33 : decode cX5_nextFold 33 = .ok (.arraylength, 1) := by decide +kernel
theorem dX5_nextFold_34 : decode cX5_nextFold 34 = .ok (.if_icmp .ge 40, 3) := by decide +kernel
theorem dX5_nextFold_37 : decode cX5_nextFold 37 = .ok (.aload_n 0, 1) := by decide +kernel
theorem dX5_nextFold_38 : decode cX5_nextFold 38 = .ok (.getfield 30, 3) := by decide +kernel
theorem dX5_nextFold_41 : decode cX5_nextFold 41 = .ok (.iload 6, 2) := by decide +kernel
theorem dX5_nextFold_43 : decode cX5_nextFold 43 = .ok (.baload, 1) := by decide +kernel
theorem dX5_nextFold_44 : decode cX5_nextFold 44 = .ok (.ifCond .ne 30, 3) := by decide +kernel
theorem dX5_nextFold_47 : decode cX5_nextFold 47 = .ok (.aload_n 0, 1) := by decide +kernel
theorem dX5_nextFold_48 : decode cX5_nextFold 48 = .ok (.aload_n 1, 1) := by decide +kernel
theorem dX5_nextFold_49 : decode cX5_nextFold 49 = .ok (.iload 6, 2) := by decide +kernel
theorem dX5_nextFold_51 : decode cX5_nextFold 51 = .ok (.invokevirtual 119, 3) := by decide +kernel
theorem dX5_nextFold_54 : decode cX5_nextFold 54 = .ok (.aload_n 0, 1) := by decide +kernel
theorem dX5_nextFold_55 : decode cX5_nextFold 55 = .ok (.iload 4, 2) := by decide +kernel
theorem dX5_nextFold_57 : decode cX5_nextFold 57 = .ok (.invokevirtual 123, 3) := by decide +kernel
theorem dX5_nextFold_60 : decode cX5_nextFold 60 = .ok (.ifCond .ne 6, 3) := by decide +kernel
theorem dX5_nextFold_63 : decode cX5_nextFold 63 = .ok (.iload 5, 2) := by decide +kernel
theorem dX5_nextFold_65 : decode cX5_nextFold 65 = .ok (.ireturn, 1) := by decide +kernel
theorem dX5_nextFold_66 : decode cX5_nextFold 66 = .ok (.aload_n 0, 1) := by decide +kernel
theorem dX5_nextFold_67 : decode cX5_nextFold 67 = .ok (.getfield 30, 3) := by decide +kernel
theorem dX5_nextFold_70 : decode cX5_nextFold 70 = .ok (.iload 6, 2) := by decide +kernel
theorem dX5_nextFold_72 : decode cX5_nextFold 72 = .ok (.iconst 1, 1) := by decide +kernel
theorem dX5_nextFold_73 : decode cX5_nextFold 73 = .ok (.bastore, 1) := by decide +kernel
theorem dX5_nextFold_74 : decode cX5_nextFold 74 = .ok (.iinc 5 1, 3) := by decide +kernel
theorem dX5_nextFold_77 : decode cX5_nextFold 77 = .ok (.goto (-74), 3) := by decide +kernel
theorem dX5_nextFold_80 : decode cX5_nextFold 80 = .ok (.bipush (-9), 2) := by decide +kernel
theorem dX5_nextFold_82 : decode cX5_nextFold 82 = .ok (.ireturn, 1) := by decide +kernel
theorem dX6_init_0 : decode cX6_init 0 = .ok (.aload_n 0, 1) := by decide +kernel
theorem dX6_init_1 : decode cX6_init 1 = .ok (.invokespecial 3, 3) := by decide +kernel
theorem dX6_init_4 : decode cX6_init 4 = .ok (.aload_n 0, 1) := by decide +kernel
theorem dX6_init_5 : decode cX6_init 5 = .ok (.iconst 0, 1) := by decide +kernel
theorem dX6_init_6 : decode cX6_init 6 = .ok (.putfield 9, 3) := by decide +kernel
theorem dX6_init_9 : decode cX6_init 9 = .ok (.aload_n 0, 1) := by decide +kernel
theorem dX6_init_10 : decode cX6_init 10 = .ok (.iconst 0, 1) := by decide +kernel
theorem dX6_init_11 : decode cX6_init 11 = .ok (.putfield 15, 3) := by decide +kernel
theorem dX6_init_14 : decode cX6_init 14 = .ok (.aload_n 0, 1) := by decide +kernel
theorem dX6_init_15 : decode cX6_init 15 = .ok (.bipush 12, 2) := by decide +kernel
theorem dX6_init_17 : decode cX6_init 17 = .ok (.anewarray 18, 3) := by decide +kernel
theorem dX6_init_20 : decode cX6_init 20 = .ok (.putfield 20, 3) := by decide +kernel
theorem dX6_init_23 : decode cX6_init 23 = .ok (.aload_n 0, 1) := by decide +kernel
theorem dX6_init_24 : decode cX6_init 24 = .ok (.bipush 12, 2) := by decide +kernel
theorem dX6_init_26 : decode cX6_init 26 = .ok (.iconst 4, 1) := by decide +kernel
theorem dX6_init_27 : decode cX6_init 27 = .ok (.multianewarray 24 2, 4) := by decide +kernel
theorem dX6_init_31 : decode cX6_init 31 = .ok (.putfield 26, 3) := by decide +kernel
theorem dX6_init_34 : decode cX6_init 34 = .ok (.aload_n 0, 1) := by decide +kernel
theorem dX6_init_35 : decode cX6_init 35 = .ok (.bipush 12, 2) := by decide +kernel
theorem dX6_init_37 : decode cX6_init 37 = .ok (.bipush 8, 2) := by decide +kernel
theorem dX6_init_39 : decode cX6_init 39 = .ok (.multianewarray 24 2, 4) := by decide +kernel
theorem dX6_init_43 : decode cX6_init 43 = .ok (.putfield 29, 3) := by decide +kernel
theorem dX6_init_46 : decode cX6_init 46 = .ok (.iconst 0, 1) := by decide +kernel
theorem dX6_init_47 : decode cX6_init 47 = .ok (.istore_n 1, 1) := by decide +kernel
theorem dX6_init_48 : decode cX6_init 48 = .ok (.iload_n 1, 1) := by decide +kernel
theorem dX6_init_49 : decode cX6_init 49 = .ok (.bipush 12, 2) := by decide +kernel
theorem dX6_init_51 : decode cX6_init 51 = .ok (.if_icmp .ge 22, 3) := by decide +kernel
theorem dX6_init_54 : decode cX6_init 54 = .ok (.aload_n 0, 1) := by decide +kernel
theorem dX6_init_55 : decode cX6_init 55 = .ok (.getfield 20, 3) := by decide +kernel
theorem dX6_init_58 : decode cX6_init 58 = .ok (.iload_n 1, 1) := by decide +kernel
theorem dX6_init_59 : decode cX6_init 59 = .ok (.new 18, 3) := by decide +kernel
theorem dX6_init_62 : decode cX6_init 62 = .ok (.dup, 1) := by decide +kernel
theorem dX6_init_63 : decode cX6_init 63 = .ok (.invokespecial 32, 3) := by decide +kernel
theorem dX6_init_66 : decode cX6_init 66 = .ok (.aastore, 1) := by decide +kernel
theorem dX6_init_67 : decode cX6_init 67 = .ok (.iinc 1 1, 3) := by decide +kernel
theorem dX6_init_70 : decode cX6_init 70 = .ok (.goto (-22), 3) := by decide +kernel
theorem dX6_init_73 : decode cX6_init 73 = .ok (.return_, 1) := by decide +kernel
theorem dX6_forgetAll_0 : decode cX6_forgetAll 0 = .ok (.aload_n 0, 1) := by decide +kernel
theorem dX6_forgetAll_1 : decode cX6_forgetAll 1 = .ok (.iconst 0, 1) := by decide +kernel
theorem dX6_forgetAll_2 : decode cX6_forgetAll 2 = .ok (.putfield 9, 3) := by decide +kernel
theorem dX6_forgetAll_5 : decode cX6_forgetAll 5 = .ok (.aload_n 0, 1) := by decide +kernel
theorem dX6_forgetAll_6 : decode cX6_forgetAll 6 = .ok (.iconst 0, 1) := by decide +kernel
theorem dX6_forgetAll_7 : decode cX6_forgetAll 7 = .ok (.putfield 15, 3) := by decide +kernel
theorem dX6_forgetAll_10 : decode cX6_forgetAll 10 = .ok (.return_, 1) := by decide +kernel
theorem dX6_remember_0 : decode cX6_remember 0 = .ok (.aload_n 0, 1) := by decide +kernel
theorem dX6_remember_1 : decode cX6_remember 1 = .ok (.getfield 9, 3) := by decide +kernel
theorem dX6_remember_4 : decode cX6_remember 4 = .ok (.bipush 12, 2) := by decide +kernel
theorem dX6_remember_6 : decode cX6_remember 6 = .ok (.if_icmp .lt 22, 3) := by decide +kernel
theorem dX6_remember_9 : decode cX6_remember 9 = .ok (.aload_n 0, 1) := by decide +kernel
theorem dX6_remember_10 : decode cX6_remember 10 = .ok (.aload_n 0, 1) := by decide +kernel
theorem dX6_remember_11 : decode cX6_remember 11 = .ok (.getfield 15, 3) := by decide +kernel
theorem dX6_remember_14 : decode cX6_remember 14 = .ok (.iconst 1, 1) := by decide +kernel
theorem dX6_remember_15 : decode cX6_remember 15 = .ok (.iadd, 1) := by decide +kernel
theorem dX6_remember_16 : decode cX6_remember 16 = .ok (.bipush 12, 2) := by decide +kernel
theorem dX6_remember_18 : decode cX6_remember 18 = .ok (.irem, 1) := by decide +kernel
theorem dX6_remember_19 : decode cX6_remember 19 = .ok (.putfield 15, 3) := by decide +kernel
theorem dX6_remember_22 : decode cX6_remember 22 = .ok (.aload_n 0, 1) := by decide +kernel
theorem dX6_remember_23 : decode cX6_remember 23 = .ok (.bipush 11, 2) := by decide +kernel
theorem dX6_remember_25 : decode cX6_remember 25 = .ok (.putfield 9, 3) := by decide +kernel
theorem dX6_remember_28 : decode cX6_remember 28 = .ok (.aload_n 0, 1) := by decide +kernel
theorem dX6_remember_29 : decode cX6_remember 29 = .ok (.getfield 15, 3) := by decide +kernel
theorem dX6_remember_32 : decode cX6_remember 32 = .ok (.aload_n 0, 1) := by decide +kernel
theorem dX6_remember_33 : decode cX6_remember 33 = .ok (.getfield 9, 3) := by decide +kernel
theorem dX6_remember_36 : decode cX6_remember 36 = .ok (.iadd, 1) := by decide +kernel
theorem dX6_remember_37 : decode cX6_remember 37 = .ok (.bipush 12, 2) := by decide +kernel
theorem dX6_remember_39 : decode cX6_remember 39 = .ok (.irem, 1) := by decide +kernel
theorem dX6_remember_40 : decode cX6_remember 40 = .ok (.istore 4, 2) := by decide +kernel
theorem dX6_remember_42 : decode cX6_remember 42 = .ok (.aload_n 0, 1) := by decide +kernel
theorem dX6_remember_43 : decode cX6_remember 43 = .ok (.getfield 20, 3) := by decide +kernel
theorem dX6_remember_46 : decode cX6_remember 46 = .ok (.iload 4, 2) := by decide +kernel
theorem dX6_remember_48 : decode cX6_remember 48 = .ok (.aaload, 1) := by decide +kernel
theorem dX6_remember_49 : decode cX6_remember 49 = .ok (.aload_n 1, 1) := by decide +kernel
theorem dX6_remember_50 : decode cX6_remember 50 = .ok (.invokevirtual 33, 3) := by decide +kernel
theorem dX6_remember_53 : decode cX6_remember 53 = .ok (.aload_n 2, 1) := by decide +kernel
theorem dX6_remember_54 : decode cX6_remember 54 = .ok (.aload_n 0, 1) := by decide +kernel
theorem dX6_remember_55 : decode cX6_remember 55 = .ok (.getfield 26, 3) := by decide +kernel
theorem dX6_remember_58 : decode cX6_remember 58 = .ok (.iload 4, 2) := by decide +kernel
theorem dX6_remember_60 : decode cX6_remember 60 = .ok (.aaload, 1) := by decide +kernel
theorem dX6_remember_61 : decode cX6_remember 61 = .ok (.invokestatic 37, 3) := by decide +kernel
theorem dX6_remember_64 : decode cX6_remember 64 = .ok (.aload_n 3, 1) := by decide +kernel
theorem dX6_remember_65 : decode cX6_remember 65 = .ok (.aload_n 0, 1) := by decide +kernel
theorem dX6_remember_66 : decode cX6_remember 66 = .ok (.getfield 29, 3) := by decide +kernel
theorem dX6_remember_69 : decode cX6_remember 69 = .ok (.iload 4, 2) := by decide +kernel
theorem dX6_remember_71 : decode cX6_remember 71 = .ok (.aaload, 1) := by decide +kernel
theorem dX6_remember_72 : decode cX6_remember 72 = .ok (.invokestatic 37, 3) := by decide +kernel
theorem dX6_remember_75 : decode cX6_remember 75 = .ok (.aload_n 0, 1) := by decide +kernel
theorem dX6_remember_76 : decode cX6_remember 76 = .ok (.dup, 1) := by decide +kernel
theorem dX6_remember_77 : decode cX6_remember 77 = .ok (.getfield 9, 3) := by decide +kernel
theorem dX6_remember_80 : decode cX6_remember 80 = .ok (.iconst 1, 1) := by decide +kernel
theorem dX6_remember_81 : decode cX6_remember 81 = .ok (.iadd, 1) := by decide +kernel
theorem dX6_remember_82 : decode cX6_remember 82 = .ok (.putfield 9, 3) := by decide +kernel
theorem dX6_remember_85 : decode cX6_remember 85 = .ok (.return_, 1) := by decide +kernel
theorem dX6_recall_0 : decode cX6_recall 0 = .ok (.aload_n 0, 1) := by decide +kernel
theorem dX6_recall_1 : decode cX6_recall 1 = .ok (.getfield 9, 3) := by decide +kernel
theorem dX6_recall_4 : decode cX6_recall 4 = .ok (.ifCond .gt 4, 3) := by decide +kernel
theorem dX6_recall_7 : decode cX6_recall 7 = .ok (.return_, 1) := by decide +kernel
theorem dX6_recall_8 : decode cX6_recall 8 = .ok (.aload_n 0, 1) := by decide +kernel
theorem dX6_recall_9 : decode cX6_recall 9 = .ok (.dup, 1) := by decide +kernel
theorem dX6_recall_10 : decode cX6_recall 10 = .ok (.getfield 9, 3) := by decide +kernel
theorem dX6_recall_13 : decode cX6_recall 13 = .ok (.iconst 1, 1) := by decide +kernel
theorem dX6_recall_14 : decode cX6_recall 14 = .ok (.isub, 1) := by decide +kernel
theorem dX6_recall_15 : decode cX6_recall 15 = .ok (.putfield 9, 3) := by decide +kernel
theorem dX6_recall_18 : decode cX6_recall 18 = .ok (.aload_n 0, 1) := by decide +kernel
theorem dX6_recall_19 : decode cX6_recall 19 = .ok (.getfield 15, 3) := by decide +kernel
theorem dX6_recall_22 : decode cX6_recall 22 = .ok (.aload_n 0, 1) := by decide +kernel
theorem dX6_recall_23 : decode cX6_recall 23 = .ok (.getfield 9, 3) := by decide +kernel
theorem dX6_recall_26 : decode cX6_recall 26 = .ok (.iadd, 1) := by decide +kernel
theorem dX6_recall_27 : decode cX6_recall 27 = .ok (.bipush 12, 2) := by decide +kernel
theorem dX6_recall_29 : decode cX6_recall 29 = .ok (.irem, 1) := by decide +kernel
theorem dX6_recall_30 : decode cX6_recall 30 = .ok (.istore 4, 2) := by decide +kernel
theorem dX6_recall_32 : decode cX6_recall 32 = .ok (.aload_n 1, 1) := by decide +kernel
theorem dX6_recall_33 : decode cX6_recall 33 = .ok (.aload_n 0, 1) := by decide +kernel
theorem dX6_recall_34 : decode cX6_recall 34 = .ok (.getfield 20, 3) := by decide +kernel
theorem dX6_recall_37 : decode cX6_recall 37 = .ok (.iload 4, 2) := by decide +kernel
theorem dX6_recall_39 : decode cX6_recall 39 = .ok (.aaload, 1) := by decide +kernel
theorem dX6_recall_40 : decode cX6_recall 40 = .ok (.invokevirtual 33, 3) := by decide +kernel
theorem dX6_recall_43 : decode cX6_recall 43 = .ok (.aload_n 0, 1) := by decide +kernel
theorem dX6_recall_44 : decode cX6_recall 44 = .ok (.getfield 26, 3) := by decide +kernel
theorem dX6_recall_47 : decode cX6_recall 47 = .ok (.iload 4, 2) := by decide +kernel
theorem dX6_recall_49 : decode cX6_recall 49 = .ok (.aaload, 1) := by decide +kernel
theorem dX6_recall_50 : decode cX6_recall 50 = .ok (.aload_n 2, 1) := by decide +kernel
theorem dX6_recall_51 : decode cX6_recall 51 = .ok (.invokestatic 37, 3) := by decide +kernel
theorem dX6_recall_54 : decode cX6_recall 54 = .ok (.aload_n 0, 1) := by decide +kernel
theorem dX6_recall_55 : decode cX6_recall 55 = .ok (.getfield 29, 3) := by decide +kernel
theorem dX6_recall_58 : decode cX6_recall 58 = .ok (.iload 4, 2) := by decide +kernel
theorem dX6_recall_60 : decode cX6_recall 60 = .ok (.aaload, 1) := by decide +kernel
theorem dX6_recall_61 : decode cX6_recall 61 = .ok (.aload_n 3, 1) := by decide +kernel
theorem dX6_recall_62 : decode cX6_recall 62 = .ok (.invokestatic 37, 3) := by decide +kernel
theorem dX6_recall_65 : decode cX6_recall 65 = .ok (.return_, 1) := by decide +kernel
theorem dX6_copy_0 : decode cX6_copy 0 = .ok (.iconst 0, 1) := by decide +kernel
theorem dX6_copy_1 : decode cX6_copy 1 = .ok (.istore_n 2, 1) := by decide +kernel
theorem dX6_copy_2 : decode cX6_copy 2 = .ok (.iload_n 2, 1) := by decide +kernel
theorem dX6_copy_3 : decode cX6_copy 3 = .ok (.aload_n 0, 1) := by decide +kernel
theorem dX6_copy_4 : decode cX6_copy 4 = .ok (.arraylength, 1) := by decide +kernel
theorem dX6_copy_5 : decode cX6_copy 5 = .ok (.if_icmp .ge 21, 3) := by decide +kernel
theorem dX6_copy_8 : decode cX6_copy 8 = .ok (.iload_n 2, 1) := by decide +kernel
theorem dX6_copy_9 : decode cX6_copy 9 = .ok (.aload_n 1, 1) := by decide +kernel
theorem dX6_copy_10 : decode cX6_copy 10 = .ok (.arraylength, 1) := by decide +kernel
theorem dX6_copy_11 : decode cX6_copy 11 = .ok (.if_icmp .ge 15, 3) := by decide +kernel
theorem dX6_copy_14 : decode cX6_copy 14 = .ok (.aload_n 1, 1) := by decide +kernel
theorem dX6_copy_15 : decode cX6_copy 15 = .ok (.iload_n 2, 1) := by decide +kernel
theorem dX6_copy_16 : decode cX6_copy 16 = .ok (.aload_n 0, 1) := by decide +kernel
theorem dX6_copy_17 : decode cX6_copy 17 = .ok (.iload_n 2, 1) := by decide +kernel
theorem dX6_copy_18 : decode cX6_copy 18 = .ok (.iaload, 1) := by decide +kernel
theorem dX6_copy_19 : decode cX6_copy 19 = .ok (.iastore, 1) := by decide +kernel
theorem dX6_copy_20 : decode cX6_copy 20 = .ok (.iinc 2 1, 3) := by decide +kernel
theorem dX6_copy_23 : decode cX6_copy 23 = .ok (.goto (-21), 3) := by decide +kernel
theorem dX6_copy_26 : decode cX6_copy 26 = .ok (.return_, 1) := by decide +kernel
theorem dX7_init_0 : decode cX7_init 0 = .ok (.aload_n 0, 1) := by decide +kernel
theorem dX7_init_1 : decode cX7_init 1 = .ok (.invokespecial 3, 3) := by decide +kernel
theorem dX7_init_4 : decode cX7_init 4 = .ok (.aload_n 0, 1) := by decide +kernel
theorem dX7_init_5 : decode cX7_init 5 = .ok (.bipush (-9), 2) := by decide +kernel
theorem dX7_init_7 : decode cX7_init 7 = .ok (.putfield 9, 3) := by decide +kernel
theorem dX7_init_10 : decode cX7_init 10 = .ok (.aload_n 0, 1) := by decide +kernel
theorem dX7_init_11 : decode cX7_init 11 = .ok (.bipush (-9), 2) := by decide +kernel
theorem dX7_init_13 : decode cX7_init 13 = .ok (.putfield 15, 3) := by decide +kernel
theorem dX7_init_16 : decode cX7_init 16 = .ok (.aload_n 0, 1) := by decide +kernel
theorem dX7_init_17 : decode cX7_init 17 = .ok (.bipush (-9), 2) := by decide +kernel
theorem dX7_init_19 : decode cX7_init 19 = .ok (.putfield 18, 3) := by decide +kernel
theorem dX7_init_22 : decode cX7_init 22 = .ok (.aload_n 0, 1) := by decide +kernel
theorem dX7_init_23 : decode cX7_init 23 = .ok (.bipush (-9), 2) := by decide +kernel
theorem dX7_init_25 : decode cX7_init 25 = .ok (.putfield 21, 3) := by decide +kernel
theorem dX7_init_28 : decode cX7_init 28 = .ok (.return_, 1) := by decide +kernel
theorem dX7_become_0 : decode cX7_become 0 = .ok (.aload_n 0, 1) := by decide +kernel
theorem dX7_become_1 : decode cX7_become 1 = .ok (.aload_n 1, 1) := by decide +kernel
theorem dX7_become_2 : decode cX7_become 2 = .ok (.getfield 9, 3) := by decide +kernel
theorem dX7_become_5 : decode cX7_become 5 = .ok (.putfield 9, 3) := by decide +kernel
theorem dX7_become_8 : decode cX7_become 8 = .ok (.aload_n 0, 1) := by decide +kernel
theorem dX7_become_9 : decode cX7_become 9 = .ok (.aload_n 1, 1) := by decide +kernel
theorem dX7_become_10 : decode cX7_become 10 = .ok (.getfield 15, 3) := by decide +kernel
theorem dX7_become_13 : decode cX7_become 13 = .ok (.putfield 15, 3) := by decide +kernel
theorem dX7_become_16 : decode cX7_become 16 = .ok (.aload_n 0, 1) := by decide +kernel
theorem dX7_become_17 : decode cX7_become 17 = .ok (.aload_n 1, 1) := by decide +kernel
theorem dX7_become_18 : decode cX7_become 18 = .ok (.getfield 24, 3) := by decide +kernel
theorem dX7_become_21 : decode cX7_become 21 = .ok (.putfield 24, 3) := by decide +kernel
theorem dX7_become_24 : decode cX7_become 24 = .ok (.aload_n 0, 1) := by decide +kernel
theorem dX7_become_25 : decode cX7_become 25 = .ok (.aload_n 1, 1) := by decide +kernel
theorem dX7_become_26 : decode cX7_become 26 = .ok (.getfield 27, 3) := by decide +kernel
theorem dX7_become_29 : decode cX7_become 29 = .ok (.putfield 27, 3) := by decide +kernel
theorem dX7_become_32 : decode cX7_become 32 = .ok (.aload_n 0, 1) := by decide +kernel
theorem dX7_become_33 : decode cX7_become 33 = .ok (.aload_n 1, 1) := by decide +kernel
theorem dX7_become_34 : decode cX7_become 34 = .ok (.getfield 30, 3) := by decide +kernel
theorem dX7_become_37 : decode cX7_become 37 = .ok (.putfield 30, 3) := by decide +kernel
theorem dX7_become_40 : decode cX7_become 40 = .ok (.aload_n 0, 1) := by decide +kernel
theorem dX7_become_41 : decode cX7_become 41 = .ok (.aload_n 1, 1) := by decide +kernel
theorem dX7_become_42 : decode cX7_become 42 = .ok (.getfield 33, 3) := by decide +kernel
theorem dX7_become_45 : decode cX7_become 45 = .ok (.putfield 33, 3) := by decide +kernel
theorem dX7_become_48 : decode cX7_become 48 = .ok (.aload_n 0, 1) := by decide +kernel
theorem dX7_become_49 : decode cX7_become 49 = .ok (.aload_n 1, 1) := by decide +kernel
theorem dX7_become_50 : decode cX7_become 50 = .ok (.getfield 18, 3) := by decide +kernel
theorem dX7_become_53 : decode cX7_become 53 = .ok (.putfield 18, 3) := by decide +kernel
theorem dX7_become_56 : decode cX7_become 56 = .ok (.aload_n 0, 1) := by decide +kernel
theorem dX7_become_57 : decode cX7_become 57 = .ok (.aload_n 1, 1) := by decide +kernel
theorem dX7_become_58 : decode cX7_become 58 = .ok (.getfield 21, 3) := by decide +kernel
theorem dX7_become_61 : decode cX7_become 61 = .ok (.putfield 21, 3) := by decide +kernel
theorem dX7_become_64 : decode cX7_become 64 = .ok (.aload_n 0, 1) := by decide +kernel
theorem dX7_become_65 : decode cX7_become 65 = .ok (.aload_n 1, 1) := by decide +kernel
theorem dX7_become_66 : decode cX7_become 66 = .ok (.getfield 36, 3) := by decide +kernel
theorem dX7_become_69 : decode cX7_become 69 = .ok (.putfield 36, 3) := by decide +kernel
theorem dX7_become_72 : decode cX7_become 72 = .ok (.aload_n 0, 1) := by decide +kernel
theorem dX7_become_73 : decode cX7_become 73 = .ok (.aload_n 1, 1) := by decide +kernel
theorem dX7_become_74 : decode cX7_become 74 = .ok (.getfield 39, 3) := by decide +kernel
theorem dX7_become_77 : decode cX7_become 77 = .ok (.putfield 39, 3) := by decide +kernel
theorem dX7_become_80 : decode cX7_become 80 = .ok (.aload_n 0, 1) := by decide +kernel
theorem dX7_become_81 : decode cX7_become 81 = .ok (.aload_n 1, 1) := by decide +kernel
theorem dX7_become_82 : decode cX7_become 82 = .ok (.getfield 42, 3) := by decide +kernel
theorem dX7_become_85 : decode cX7_become 85 = .ok (.putfield 42, 3) := by decide +kernel
theorem dX7_become_88 : decode cX7_become 88 = .ok (.aload_n 0, 1) := by decide +kernel
theorem dX7_become_89 : decode cX7_become 89 = .ok (.aload_n 1, 1) := by decide +kernel
theorem dX7_become_90 : decode cX7_become 90 = .ok (.getfield 45, 3) := by decide +kernel
theorem dX7_become_93 : decode cX7_become 93 = .ok (.putfield 45, 3) := by decide +kernel
theorem dX7_become_96 : decode cX7_become 96 = .ok (.aload_n 0, 1) := by decide +kernel
theorem dX7_become_97 : decode cX7_become 97 = .ok (.aload_n 1, 1) := by decide +kernel
theorem dX7_become_98 : decode cX7_become 98 = .ok (.getfield 48, 3) := by decide +kernel
theorem dX7_become_101 : decode cX7_become 101 = .ok (.putfield 48, 3) := by decide +kernel
theorem dX7_become_104 : decode cX7_become 104 = .ok (.aload_n 0, 1) := by decide +kernel
theorem dX7_become_105 : decode cX7_become 105 = .ok (.aload_n 1, 1) := by decide +kernel
theorem dX7_become_106 : decode cX7_become 106 = .ok (.getfield 51, 3) := by decide +kernel
theorem dX7_become_109 : decode cX7_become 109 = .ok (.putfield 51, 3) := by decide +kernel
theorem dX7_become_112 : decode cX7_become 112 = .ok (.aload_n 0, 1) := by decide +kernel
theorem dX7_become_113 : decode cX7_become 113 = .ok (.aload_n 1, 1) := by decide +kernel
theorem dX7_become_114 : decode cX7_become 114 = .ok (.getfield 54, 3) := by decide +kernel
theorem dX7_become_117 : decode cX7_become 117 = .ok (.putfield 54, 3) := by decide +kernel
theorem dX7_become_120 : decode cX7_become 120 = .ok (.return_, 1) := by decide +kernel
theorem dX7_makePlain_0 : decode cX7_makePlain 0 = .ok (.aload_n 0, 1) := by decide +kernel
theorem dX7_makePlain_1 : decode cX7_makePlain 1 = .ok (.bipush (-9), 2) := by decide +kernel
theorem dX7_makePlain_3 : decode cX7_makePlain 3 = .ok (.putfield 18, 3) := by decide +kernel
theorem dX7_makePlain_6 : decode cX7_makePlain 6 = .ok (.aload_n 0, 1) := by decide +kernel
theorem dX7_makePlain_7 : decode cX7_makePlain 7 = .ok (.bipush (-9), 2) := by decide +kernel
theorem dX7_makePlain_9 : decode cX7_makePlain 9 = .ok (.putfield 21, 3) := by decide +kernel
theorem dX7_makePlain_12 : decode cX7_makePlain 12 = .ok (.aload_n 0, 1) := by decide +kernel
theorem dX7_makePlain_13 : decode cX7_makePlain 13 = .ok (.iconst 0, 1) := by decide +kernel
theorem dX7_makePlain_14 : decode cX7_makePlain 14 = .ok (.putfield 36, 3) := by decide +kernel
theorem dX7_makePlain_17 : decode cX7_makePlain 17 = .ok (.aload_n 0, 1) := by decide +kernel
theorem dX7_makePlain_18 : decode cX7_makePlain 18 = .ok (.iconst 0, 1) := by decide +kernel
theorem dX7_makePlain_19 : decode cX7_makePlain 19 = .ok (.putfield 39, 3) := by decide +kernel
theorem dX7_makePlain_22 : decode cX7_makePlain 22 = .ok (.aload_n 0, 1) := by decide +kernel
theorem dX7_makePlain_23 : decode cX7_makePlain 23 = .ok (.iconst 0, 1) := by decide +kernel
theorem dX7_makePlain_24 : decode cX7_makePlain 24 = .ok (.putfield 42, 3) := by decide +kernel
theorem dX7_makePlain_27 : decode cX7_makePlain 27 = .ok (.return_, 1) := by decide +kernel
theorem dX7_isFlap_0 : decode cX7_isFlap 0 = .ok (.aload_n 0, 1) := by decide +kernel
theorem dX7_isFlap_1 : decode cX7_isFlap 1 = .ok (.getfield 18, 3) := by decide +kernel
theorem dX7_isFlap_4 : decode cX7_isFlap 4 = .ok (.bipush (-9), 2) := by decide +kernel
theorem dX7_isFlap_6 : decode cX7_isFlap 6 = .ok (.if_icmp .eq 7, 3) := by decide +kernel
theorem dX7_isFlap_9 : decode cX7_isFlap 9 = .ok (.iconst 1, 1) := by decide +kernel
theorem dX7_isFlap_10 : decode cX7_isFlap 10 = .ok (.goto 4, 3) := by decide +kernel
theorem dX7_isFlap_13 : decode cX7_isFlap 13 = .ok (.iconst 0, 1) := by decide +kernel
theorem dX7_isFlap_14 : decode cX7_isFlap 14 = .ok (.ireturn, 1) := by decide +kernel
theorem dX7_nearSide_0 : decode cX7_nearSide 0 = .ok (.aload_n 0, 1) := by decide +kernel
theorem dX7_nearSide_1 : decode cX7_nearSide 1 = .ok (.getfield 9, 3) := by decide +kernel
theorem dX7_nearSide_4 : decode cX7_nearSide 4 = .ok (.bipush (-9), 2) := by decide +kernel
theorem dX7_nearSide_6 : decode cX7_nearSide 6 = .ok (.if_icmp .ne 8, 3) := by decide +kernel
theorem dX7_nearSide_9 : decode cX7_nearSide 9 = .ok (.bipush (-9), 2) := by decide +kernel
theorem dX7_nearSide_11 : decode cX7_nearSide 11 = .ok (.goto 11, 3) := by decide +kernel
theorem dX7_nearSide_14 : decode cX7_nearSide 14 = .ok (.aload_n 0, 1) := by decide +kernel
theorem dX7_nearSide_15 : decode cX7_nearSide 15 = .ok (.getfield 15, 3) := by decide +kernel
theorem dX7_nearSide_18 : decode cX7_nearSide 18 = .ok (.iconst 2, 1) := by decide +kernel
theorem dX7_nearSide_19 : decode cX7_nearSide 19 = .ok (.iadd, 1) := by decide +kernel
theorem dX7_nearSide_20 : decode cX7_nearSide 20 = .ok (.iconst 3, 1) := by decide +kernel
theorem dX7_nearSide_21 : decode cX7_nearSide 21 = .ok (.iand, 1) := by decide +kernel
theorem dX7_nearSide_22 : decode cX7_nearSide 22 = .ok (.ireturn, 1) := by decide +kernel
theorem dX7_hangsOn_0 : decode cX7_hangsOn 0 = .ok (.aload_n 0, 1) := by decide +kernel
theorem dX7_hangsOn_1 : decode cX7_hangsOn 1 = .ok (.getfield 9, 3) := by decide +kernel
theorem dX7_hangsOn_4 : decode cX7_hangsOn 4 = .ok (.iload_n 1, 1) := by decide +kernel
theorem dX7_hangsOn_5 : decode cX7_hangsOn 5 = .ok (.if_icmp .ne 15, 3) := by decide +kernel
theorem dX7_hangsOn_8 : decode cX7_hangsOn 8 = .ok (.aload_n 0, 1) := by decide +kernel
theorem dX7_hangsOn_9 : decode cX7_hangsOn 9 = .ok (.getfield 15, 3) := by decide +kernel
theorem dX7_hangsOn_12 : decode cX7_hangsOn 12 = .ok (.iload_n 2, 1) := by decide +kernel
theorem dX7_hangsOn_13 : decode cX7_hangsOn 13 = .ok (.if_icmp .ne 7, 3) := by decide +kernel
theorem dX7_hangsOn_16 : decode cX7_hangsOn 16 = .ok (.iconst 1, 1) := by decide +kernel
theorem dX7_hangsOn_17 : decode cX7_hangsOn 17 = .ok (.goto 4, 3) := by decide +kernel
theorem dX7_hangsOn_20 : decode cX7_hangsOn 20 = .ok (.iconst 0, 1) := by decide +kernel
theorem dX7_hangsOn_21 : decode cX7_hangsOn 21 = .ok (.ireturn, 1) := by decide +kernel
theorem dX7_sideLength_0 : decode cX7_sideLength 0 = .ok (.iload_n 1, 1) := by decide +kernel
theorem dX7_sideLength_1 : decode cX7_sideLength 1 = .ok (.iconst 1, 1) := by decide +kernel
theorem dX7_sideLength_2 : decode cX7_sideLength 2 = .ok (.iand, 1) := by decide +kernel
theorem dX7_sideLength_3 : decode cX7_sideLength 3 = .ok (.ifCond .ne 10, 3) := by decide +kernel
theorem dX7_sideLength_6 : decode cX7_sideLength 6 = .ok (.aload_n 0, 1) := by decide +kernel
theorem dX7_sideLength_7 : decode cX7_sideLength 7 = .ok (.getfield 51, 3) := by decide +kernel
theorem dX7_sideLength_10 : decode cX7_sideLength 10 = .ok (.goto 7, 3) := by decide +kernel
theorem dX7_sideLength_13 : decode cX7_sideLength 13 = .ok (.aload_n 0, 1) := by decide +kernel
theorem dX7_sideLength_14 : decode cX7_sideLength 14 = .ok (.getfield 54, 3) := by decide +kernel
theorem dX7_sideLength_17 : decode cX7_sideLength 17 = .ok (.ireturn, 1) := by decide +kernel
theorem dX7_lowOn_0 : decode cX7_lowOn 0 = .ok (.iload_n 1, 1) := by decide +kernel
theorem dX7_lowOn_1 : decode cX7_lowOn 1 = .ok (.ifCond .ne 10, 3) := by decide +kernel
theorem dX7_lowOn_4 : decode cX7_lowOn 4 = .ok (.aload_n 0, 1) := by decide +kernel
theorem dX7_lowOn_5 : decode cX7_lowOn 5 = .ok (.getfield 45, 3) := by decide +kernel
theorem dX7_lowOn_8 : decode cX7_lowOn 8 = .ok (.goto 7, 3) := by decide +kernel
theorem dX7_lowOn_11 : decode cX7_lowOn 11 = .ok (.aload_n 0, 1) := by decide +kernel
theorem dX7_lowOn_12 : decode cX7_lowOn 12 = .ok (.getfield 48, 3) := by decide +kernel
theorem dX7_lowOn_15 : decode cX7_lowOn 15 = .ok (.ireturn, 1) := by decide +kernel
theorem dX7_highOn_0 : decode cX7_highOn 0 = .ok (.iload_n 1, 1) := by decide +kernel
theorem dX7_highOn_1 : decode cX7_highOn 1 = .ok (.ifCond .ne 15, 3) := by decide +kernel
theorem dX7_highOn_4 : decode cX7_highOn 4 = .ok (.aload_n 0, 1) := by decide +kernel
theorem dX7_highOn_5 : decode cX7_highOn 5 = .ok (.getfield 45, 3) := by decide +kernel
theorem dX7_highOn_8 : decode cX7_highOn 8 = .ok (.aload_n 0, 1) := by decide +kernel
theorem dX7_highOn_9 : decode cX7_highOn 9 = .ok (.getfield 51, 3) := by decide +kernel
theorem dX7_highOn_12 : decode cX7_highOn 12 = .ok (.iadd, 1) := by decide +kernel
theorem dX7_highOn_13 : decode cX7_highOn 13 = .ok (.goto 12, 3) := by decide +kernel
theorem dX7_highOn_16 : decode cX7_highOn 16 = .ok (.aload_n 0, 1) := by decide +kernel
theorem dX7_highOn_17 : decode cX7_highOn 17 = .ok (.getfield 48, 3) := by decide +kernel
theorem dX7_highOn_20 : decode cX7_highOn 20 = .ok (.aload_n 0, 1) := by decide +kernel
theorem dX7_highOn_21 : decode cX7_highOn 21 = .ok (.getfield 54, 3) := by decide +kernel
theorem dX7_highOn_24 : decode cX7_highOn 24 = .ok (.iadd, 1) := by decide +kernel
theorem dX7_highOn_25 : decode cX7_highOn 25 = .ok (.ireturn, 1) := by decide +kernel
theorem dX7_overlaps_0 : decode cX7_overlaps 0 = .ok (.aload_n 0, 1) := by decide +kernel
theorem dX7_overlaps_1 : decode cX7_overlaps 1 = .ok (.getfield 45, 3) := by decide +kernel
theorem dX7_overlaps_4 : decode cX7_overlaps 4 = .ok (.aload_n 1, 1) := by decide +kernel
theorem dX7_overlaps_5 : decode cX7_overlaps 5 = .ok (.getfield 45, 3) := by decide +kernel
theorem dX7_overlaps_8 : decode cX7_overlaps 8 = .ok (.aload_n 1, 1) := by decide +kernel
theorem dX7_overlaps_9 : decode cX7_overlaps 9 = .ok (.getfield 51, 3) := by decide +kernel
theorem dX7_overlaps_12 : decode cX7_overlaps 12 = .ok (.iadd, 1) := by decide +kernel
theorem dX7_overlaps_13 : decode cX7_overlaps 13 = .ok (.if_icmp .ge 55, 3) := by decide +kernel
theorem dX7_overlaps_16 : decode cX7_overlaps 16 = .ok (.aload_n 1, 1) := by decide +kernel
theorem dX7_overlaps_17 : decode cX7_overlaps 17 = .ok (.getfield 45, 3) := by decide +kernel
theorem dX7_overlaps_20 : decode cX7_overlaps 20 = .ok (.aload_n 0, 1) := by decide +kernel
theorem dX7_overlaps_21 : decode cX7_overlaps 21 = .ok (.getfield 45, 3) := by decide +kernel
theorem dX7_overlaps_24 : decode cX7_overlaps 24 = .ok (.aload_n 0, 1) := by decide +kernel
theorem dX7_overlaps_25 : decode cX7_overlaps 25 = .ok (.getfield 51, 3) := by decide +kernel
theorem dX7_overlaps_28 : decode cX7_overlaps 28 = .ok (.iadd, 1) := by decide +kernel
theorem dX7_overlaps_29 : decode cX7_overlaps 29 = .ok (.if_icmp .ge 39, 3) := by decide +kernel
theorem dX7_overlaps_32 : decode cX7_overlaps 32 = .ok (.aload_n 0, 1) := by decide +kernel
theorem dX7_overlaps_33 : decode cX7_overlaps 33 = .ok (.getfield 48, 3) := by decide +kernel
theorem dX7_overlaps_36 : decode cX7_overlaps 36 = .ok (.aload_n 1, 1) := by decide +kernel
theorem dX7_overlaps_37 : decode cX7_overlaps 37 = .ok (.getfield 48, 3) := by decide +kernel
theorem dX7_overlaps_40 : decode cX7_overlaps 40 = .ok (.aload_n 1, 1) := by decide +kernel
theorem dX7_overlaps_41 : decode cX7_overlaps 41 = .ok (.getfield 54, 3) := by decide +kernel
theorem dX7_overlaps_44 : decode cX7_overlaps 44 = .ok (.iadd, 1) := by decide +kernel
theorem dX7_overlaps_45 : decode cX7_overlaps 45 = .ok (.if_icmp .ge 23, 3) := by decide +kernel
theorem dX7_overlaps_48 : decode cX7_overlaps 48 = .ok (.aload_n 1, 1) := by decide +kernel
theorem dX7_overlaps_49 : decode cX7_overlaps 49 = .ok (.getfield 48, 3) := by decide +kernel
theorem dX7_overlaps_52 : decode cX7_overlaps 52 = .ok (.aload_n 0, 1) := by decide +kernel
theorem dX7_overlaps_53 : decode cX7_overlaps 53 = .ok (.getfield 48, 3) := by decide +kernel
theorem dX7_overlaps_56 : decode cX7_overlaps 56 = .ok (.aload_n 0, 1) := by decide +kernel
theorem dX7_overlaps_57 : decode cX7_overlaps 57 = .ok (.getfield 54, 3) := by decide +kernel
theorem dX7_overlaps_60 : decode cX7_overlaps 60 = .ok (.iadd, 1) := by decide +kernel
theorem dX7_overlaps_61 : decode cX7_overlaps 61 = .ok (.if_icmp .ge 7, 3) := by decide +kernel
theorem dX7_overlaps_64 : decode cX7_overlaps 64 = .ok (.iconst 1, 1) := by decide +kernel
theorem dX7_overlaps_65 : decode cX7_overlaps 65 = .ok (.goto 4, 3) := by decide +kernel
theorem dX7_overlaps_68 : decode cX7_overlaps 68 = .ok (.iconst 0, 1) := by decide +kernel
theorem dX7_overlaps_69 : decode cX7_overlaps 69 = .ok (.ireturn, 1) := by decide +kernel
theorem dX8_init_0 : decode cX8_init 0 = .ok (.aload_n 0, 1) := by decide +kernel
theorem dX8_init_1 : decode cX8_init 1 = .ok (.invokespecial 1, 3) := by decide +kernel
theorem dX8_init_4 : decode cX8_init 4 = .ok (.aload_n 0, 1) := by decide +kernel
theorem dX8_init_5 : decode cX8_init 5 = .ok (.iconst 3, 1) := by decide +kernel
theorem dX8_init_6 : decode cX8_init 6 = .ok (.newarray .int, 2) := by decide +kernel
theorem dX8_init_8 : decode cX8_init 8 = .ok (.putfield 7, 3) := by decide +kernel
theorem dX8_init_11 : decode cX8_init 11 = .ok (.aload_n 0, 1) := by decide +kernel
theorem dX8_init_12 : decode cX8_init 12 = .ok (.iconst 3, 1) := by decide +kernel
theorem dX8_init_13 : decode cX8_init 13 = .ok (.newarray .int, 2) := by decide +kernel
theorem dX8_init_15 : decode cX8_init 15 = .ok (.putfield 13, 3) := by decide +kernel
theorem dX8_init_18 : decode cX8_init 18 = .ok (.aload_n 0, 1) := by decide +kernel
theorem dX8_init_19 : decode cX8_init 19 = .ok (.iconst 4, 1) := by decide +kernel
theorem dX8_init_20 : decode cX8_init 20 = .ok (.newarray .int, 2) := by decide +kernel
theorem dX8_init_22 : decode cX8_init 22 = .ok (.putfield 16, 3) := by decide +kernel
theorem dX8_init_25 : decode cX8_init 25 = .ok (.aload_n 0, 1) := by decide +kernel
theorem dX8_init_26 : decode cX8_init 26 = .ok (.iconst 4, 1) := by decide +kernel
theorem dX8_init_27 : decode cX8_init 27 = .ok (.newarray .int, 2) := by decide +kernel
theorem dX8_init_29 : decode cX8_init 29 = .ok (.putfield 19, 3) := by decide +kernel
theorem dX8_init_32 : decode cX8_init 32 = .ok (.aload_n 0, 1) := by decide +kernel
theorem dX8_init_33 : decode cX8_init 33 = .ok (.iconst 4, 1) := by decide +kernel
theorem dX8_init_34 : decode cX8_init 34 = .ok (.newarray .int, 2) := by decide +kernel
theorem dX8_init_36 : decode cX8_init 36 = .ok (.putfield 22, 3) := by decide +kernel
theorem dX8_init_39 : decode cX8_init 39 = .ok (.aload_n 0, 1) := by decide +kernel
theorem dX8_init_40 : decode cX8_init 40 = .ok (.iconst 4, 1) := by decide +kernel
theorem dX8_init_41 : decode cX8_init 41 = .ok (.newarray .int, 2) := by decide +kernel
theorem dX8_init_43 : decode cX8_init 43 = .ok (.putfield 25, 3) := by decide +kernel
theorem dX8_init_46 : decode cX8_init 46 = .ok (.aload_n 0, 1) := by decide +kernel
theorem dX8_init_47 : decode cX8_init 47 = .ok (.iconst 4, 1) := by decide +kernel
theorem dX8_init_48 : decode cX8_init 48 = .ok (.newarray .int, 2) := by decide +kernel
theorem dX8_init_50 : decode cX8_init 50 = .ok (.putfield 28, 3) := by decide +kernel
theorem dX8_init_53 : decode cX8_init 53 = .ok (.aload_n 0, 1) := by decide +kernel
theorem dX8_init_54 : decode cX8_init 54 = .ok (.iconst 3, 1) := by decide +kernel
theorem dX8_init_55 : decode cX8_init 55 = .ok (.newarray .int, 2) := by decide +kernel
theorem dX8_init_57 : decode cX8_init 57 = .ok (.putfield 31, 3) := by decide +kernel
theorem dX8_init_60 : decode cX8_init 60 = .ok (.aload_n 0, 1) := by decide +kernel
theorem dX8_init_61 : decode cX8_init 61 = .ok (.iconst 4, 1) := by decide +kernel
theorem dX8_init_62 : decode cX8_init 62 = .ok (.newarray .int, 2) := by decide +kernel
theorem dX8_init_64 : decode cX8_init 64 = .ok (.putfield 34, 3) := by decide +kernel
theorem dX8_init_67 : decode cX8_init 67 = .ok (.return_, 1) := by decide +kernel
theorem dX8_layFlat_0 : decode cX8_layFlat 0 = .ok (.aload_n 0, 1) := by decide +kernel
theorem dX8_layFlat_1 : decode cX8_layFlat 1 = .ok (.iconst 0, 1) := by decide +kernel
theorem dX8_layFlat_2 : decode cX8_layFlat 2 = .ok (.putfield 37, 3) := by decide +kernel
theorem dX8_layFlat_5 : decode cX8_layFlat 5 = .ok (.aload_n 0, 1) := by decide +kernel
theorem dX8_layFlat_6 : decode cX8_layFlat 6 = .ok (.iconst 2, 1) := by decide +kernel
theorem dX8_layFlat_7 : decode cX8_layFlat 7 = .ok (.putfield 41, 3) := by decide +kernel
theorem dX8_layFlat_10 : decode cX8_layFlat 10 = .ok (.aload_n 0, 1) := by decide +kernel
theorem dX8_layFlat_11 : decode cX8_layFlat 11 = .ok (.iconst 4, 1) := by decide +kernel
theorem dX8_layFlat_12 : decode cX8_layFlat 12 = .ok (.putfield 44, 3) := by decide +kernel
theorem dX8_layFlat_15 : decode cX8_layFlat 15 = .ok (.aload_n 0, 1) := by decide +kernel
theorem dX8_layFlat_16 : decode cX8_layFlat 16 = .ok (.aload_n 1, 1) := by decide +kernel
theorem dX8_layFlat_17 : decode cX8_layFlat 17 = .ok (.getfield 47, 3) := by decide +kernel
theorem dX8_layFlat_20 : decode cX8_layFlat 20 = .ok (.putfield 52, 3) := by decide +kernel
theorem dX8_layFlat_23 : decode cX8_layFlat 23 = .ok (.aload_n 0, 1) := by decide +kernel
theorem dX8_layFlat_24 : decode cX8_layFlat 24 = .ok (.aload_n 1, 1) := by decide +kernel
theorem dX8_layFlat_25 : decode cX8_layFlat 25 = .ok (.getfield 53, 3) := by decide +kernel
theorem dX8_layFlat_28 : decode cX8_layFlat 28 = .ok (.putfield 56, 3) := by decide +kernel
theorem dX8_layFlat_31 : decode cX8_layFlat 31 = .ok (.aload_n 0, 1) := by decide +kernel
theorem dX8_layFlat_32 : decode cX8_layFlat 32 = .ok (.getfield 31, 3) := by decide +kernel
theorem dX8_layFlat_35 : decode cX8_layFlat 35 = .ok (.iconst 0, 1) := by decide +kernel
theorem dX8_layFlat_36 : decode cX8_layFlat 36 = .ok (.aload_n 1, 1) := by decide +kernel
theorem dX8_layFlat_37 : decode cX8_layFlat 37 = .ok (.getfield 57, 3) := by decide +kernel
theorem dX8_layFlat_40 : decode cX8_layFlat 40 = .ok (.iastore, 1) := by decide +kernel
theorem dX8_layFlat_41 : decode cX8_layFlat 41 = .ok (.aload_n 0, 1) := by decide +kernel
theorem dX8_layFlat_42 : decode cX8_layFlat 42 = .ok (.getfield 31, 3) := by decide +kernel
theorem dX8_layFlat_45 : decode cX8_layFlat 45 = .ok (.iconst 1, 1) := by decide +kernel
theorem dX8_layFlat_46 : decode cX8_layFlat 46 = .ok (.aload_n 1, 1) := by decide +kernel
theorem dX8_layFlat_47 : decode cX8_layFlat 47 = .ok (.getfield 60, 3) := by decide +kernel
theorem dX8_layFlat_50 : decode cX8_layFlat 50 = .ok (.iastore, 1) := by decide +kernel
theorem dX8_layFlat_51 : decode cX8_layFlat 51 = .ok (.aload_n 0, 1) := by decide +kernel
theorem dX8_layFlat_52 : decode cX8_layFlat 52 = .ok (.getfield 31, 3) := by decide +kernel
theorem dX8_layFlat_55 : decode cX8_layFlat 55 = .ok (.iconst 2, 1) := by decide +kernel
theorem dX8_layFlat_56 : decode cX8_layFlat 56 = .ok (.iconst 0, 1) := by decide +kernel
theorem dX8_layFlat_57 : decode cX8_layFlat 57 = .ok (.iastore, 1) := by decide +kernel
theorem dX8_layFlat_58 : decode cX8_layFlat 58 = .ok (.return_, 1) := by decide +kernel
theorem dX8_hangOn_0 : decode cX8_hangOn 0 = .ok (.aload_n 2, 1) := by decide +kernel
theorem dX8_hangOn_1 : decode cX8_hangOn 1 = .ok (.getfield 63, 3) := by decide +kernel
theorem dX8_hangOn_4 : decode cX8_hangOn 4 = .ok (.istore 4, 2) := by decide +kernel
theorem dX8_hangOn_6 : decode cX8_hangOn 6 = .ok (.aload_n 1, 1) := by decide +kernel
theorem dX8_hangOn_7 : decode cX8_hangOn 7 = .ok (.iload 4, 2) := by decide +kernel
theorem dX8_hangOn_9 : decode cX8_hangOn 9 = .ok (.invokevirtual 66, 3) := by decide +kernel
theorem dX8_hangOn_12 : decode cX8_hangOn 12 = .ok (.istore 5, 2) := by decide +kernel
theorem dX8_hangOn_14 : decode cX8_hangOn 14 = .ok (.iload_n 3, 1) := by decide +kernel
theorem dX8_hangOn_15 : decode cX8_hangOn 15 = .ok (.ifCond .ne 8, 3) := by decide +kernel
theorem dX8_hangOn_18 : decode cX8_hangOn 18 = .ok (.iload 5, 2) := by decide +kernel
theorem dX8_hangOn_20 : decode cX8_hangOn 20 = .ok (.goto 33, 3) := by decide +kernel
theorem dX8_hangOn_23 : decode cX8_hangOn 23 = .ok (.iload_n 3, 1) := by decide +kernel
theorem dX8_hangOn_24 : decode cX8_hangOn 24 = .ok (.iconst 1, 1) := by decide +kernel
theorem dX8_hangOn_25 : decode cX8_hangOn 25 = .ok (.if_icmp .ne 12, 3) := by decide +kernel
theorem dX8_hangOn_28 : decode cX8_hangOn 28 = .ok (.aload_n 1, 1) := by decide +kernel
theorem dX8_hangOn_29 : decode cX8_hangOn 29 = .ok (.getfield 44, 3) := by decide +kernel
theorem dX8_hangOn_32 : decode cX8_hangOn 32 = .ok (.iconst 1, 1) := by decide +kernel
theorem dX8_hangOn_33 : decode cX8_hangOn 33 = .ok (.ixor, 1) := by decide +kernel
theorem dX8_hangOn_34 : decode cX8_hangOn 34 = .ok (.goto 19, 3) := by decide +kernel
theorem dX8_hangOn_37 : decode cX8_hangOn 37 = .ok (.iload_n 3, 1) := by decide +kernel
theorem dX8_hangOn_38 : decode cX8_hangOn 38 = .ok (.iconst 2, 1) := by decide +kernel
theorem dX8_hangOn_39 : decode cX8_hangOn 39 = .ok (.if_icmp .ne 10, 3) := by decide +kernel
theorem dX8_hangOn_42 : decode cX8_hangOn 42 = .ok (.iload 5, 2) := by decide +kernel
theorem dX8_hangOn_44 : decode cX8_hangOn 44 = .ok (.iconst 1, 1) := by decide +kernel
theorem dX8_hangOn_45 : decode cX8_hangOn 45 = .ok (.ixor, 1) := by decide +kernel
theorem dX8_hangOn_46 : decode cX8_hangOn 46 = .ok (.goto 7, 3) := by decide +kernel
theorem dX8_hangOn_49 : decode cX8_hangOn 49 = .ok (.aload_n 1, 1) := by decide +kernel
theorem dX8_hangOn_50 : decode cX8_hangOn 50 = .ok (.getfield 44, 3) := by decide +kernel
theorem dX8_hangOn_53 : decode cX8_hangOn 53 = .ok (.istore 6, 2) := by decide +kernel
theorem dX8_hangOn_55 : decode cX8_hangOn 55 = .ok (.aload_n 0, 1) := by decide +kernel
theorem dX8_hangOn_56 : decode cX8_hangOn 56 = .ok (.iload_n 3, 1) := by decide +kernel
theorem dX8_hangOn_57 : decode cX8_hangOn 57 = .ok (.ifCond .ne 10, 3) := by decide +kernel
theorem dX8_hangOn_60 : decode cX8_hangOn 60 = .ok (.aload_n 1, 1) := by decide +kernel
theorem dX8_hangOn_61 : decode cX8_hangOn 61 = .ok (.getfield 44, 3) := by decide +kernel
theorem dX8_hangOn_64 : decode cX8_hangOn 64 = .ok (.goto 31, 3) := by decide +kernel
theorem dX8_hangOn_67 : decode cX8_hangOn 67 = .ok (.iload_n 3, 1) := by decide +kernel
theorem dX8_hangOn_68 : decode cX8_hangOn 68 = .ok (.iconst 1, 1) := by decide +kernel
theorem dX8_hangOn_69 : decode cX8_hangOn 69 = .ok (.if_icmp .ne 8, 3) := by decide +kernel
theorem dX8_hangOn_72 : decode cX8_hangOn 72 = .ok (.iload 5, 2) := by decide +kernel
theorem dX8_hangOn_74 : decode cX8_hangOn 74 = .ok (.goto 21, 3) := by decide +kernel
theorem dX8_hangOn_77 : decode cX8_hangOn 77 = .ok (.iload_n 3, 1) := by decide +kernel
theorem dX8_hangOn_78 : decode cX8_hangOn 78 = .ok (.iconst 2, 1) := by decide +kernel
theorem dX8_hangOn_79 : decode cX8_hangOn 79 = .ok (.if_icmp .ne 12, 3) := by decide +kernel
theorem dX8_hangOn_82 : decode cX8_hangOn 82 = .ok (.aload_n 1, 1) := by decide +kernel
theorem dX8_hangOn_83 : decode cX8_hangOn 83 = .ok (.getfield 44, 3) := by decide +kernel
theorem dX8_hangOn_86 : decode cX8_hangOn 86 = .ok (.iconst 1, 1) := by decide +kernel
theorem dX8_hangOn_87 : decode cX8_hangOn 87 = .ok (.ixor, 1) := by decide +kernel
theorem dX8_hangOn_88 : decode cX8_hangOn 88 = .ok (.goto 7, 3) := by decide +kernel
theorem dX8_hangOn_91 : decode cX8_hangOn 91 = .ok (.iload 5, 2) := by decide +kernel
theorem dX8_hangOn_93 : decode cX8_hangOn 93 = .ok (.iconst 1, 1) := by decide +kernel
theorem dX8_hangOn_94 : decode cX8_hangOn 94 = .ok (.ixor, 1) := by decide +kernel
theorem dX8_hangOn_95 : decode cX8_hangOn 95 = .ok (.putfield 44, 3) := by decide +kernel
theorem dX8_hangOn_98 : decode cX8_hangOn 98 = .ok (.iload 4, 2) := by decide +kernel
theorem dX8_hangOn_100 : decode cX8_hangOn 100 = .ok (.iconst 1, 1) := by decide +kernel
theorem dX8_hangOn_101 : decode cX8_hangOn 101 = .ok (.iand, 1) := by decide +kernel
theorem dX8_hangOn_102 : decode cX8_hangOn 102 = .ok (.ifCond .ne 7, 3) := by decide +kernel
theorem dX8_hangOn_105 : decode cX8_hangOn 105 = .ok (.iconst 1, 1) := by decide +kernel
theorem dX8_hangOn_106 : decode cX8_hangOn 106 = .ok (.goto 4, 3) := by decide +kernel
theorem dX8_hangOn_109 : decode cX8_hangOn 109 = .ok (.iconst 0, 1) := by decide +kernel
theorem dX8_hangOn_110 : decode cX8_hangOn 110 = .ok (.istore 7, 2) := by decide +kernel
theorem dX8_hangOn_112 : decode cX8_hangOn 112 = .ok (.aload_n 0, 1) := by decide +kernel
theorem dX8_hangOn_113 : decode cX8_hangOn 113 = .ok (.iload 7, 2) := by decide +kernel
theorem dX8_hangOn_115 : decode cX8_hangOn 115 = .ok (.ifCond .eq 10, 3) := by decide +kernel
theorem dX8_hangOn_118 : decode cX8_hangOn 118 = .ok (.aload_n 1, 1) := by decide +kernel
theorem dX8_hangOn_119 : decode cX8_hangOn 119 = .ok (.getfield 37, 3) := by decide +kernel
theorem dX8_hangOn_122 : decode cX8_hangOn 122 = .ok (.goto 18, 3) := by decide +kernel
theorem dX8_hangOn_125 : decode cX8_hangOn 125 = .ok (.iload 4, 2) := by decide +kernel
theorem dX8_hangOn_127 : decode cX8_hangOn 127 = .ok (.iconst 1, 1) := by decide +kernel
theorem dX8_hangOn_128 : decode cX8_hangOn 128 = .ok (.if_icmp .ne 8, 3) := by decide +kernel
theorem dX8_hangOn_131 : decode cX8_hangOn 131 = .ok (.iload 6, 2) := by decide +kernel
theorem dX8_hangOn_133 : decode cX8_hangOn 133 = .ok (.goto 7, 3) := by decide +kernel
theorem dX8_hangOn_136 : decode cX8_hangOn 136 = .ok (.iload 6, 2) := by decide +kernel
theorem dX8_hangOn_138 : decode cX8_hangOn 138 = .ok (.iconst 1, 1) := by decide +kernel
theorem dX8_hangOn_139 : decode cX8_hangOn 139 = .ok (.ixor, 1) := by decide +kernel
theorem dX8_hangOn_140 : decode cX8_hangOn 140 = .ok (.putfield 37, 3) := by decide +kernel
theorem dX8_hangOn_143 : decode cX8_hangOn 143 = .ok (.aload_n 0, 1) := by decide +kernel
theorem dX8_hangOn_144 : decode cX8_hangOn 144 = .ok (.iload 7, 2) := by decide +kernel
theorem dX8_hangOn_146 : decode cX8_hangOn 146 = .ok (.ifCond .ne 10, 3) := by decide +kernel
theorem dX8_hangOn_149 : decode cX8_hangOn 149 = .ok (.aload_n 1, 1) := by decide +kernel
theorem dX8_hangOn_150 : decode cX8_hangOn 150 = .ok (.getfield 41, 3) := by decide +kernel
theorem dX8_hangOn_153 : decode cX8_hangOn 153 = .ok (.goto 18, 3) := by decide +kernel
theorem dX8_hangOn_156 : decode cX8_hangOn 156 = .ok (.iload 4, 2) := by decide +kernel
theorem dX8_hangOn_158 : decode cX8_hangOn 158 = .ok (.iconst 2, 1) := by decide +kernel
theorem dX8_hangOn_159 : decode cX8_hangOn 159 = .ok (.if_icmp .ne 8, 3) := by decide +kernel
theorem dX8_hangOn_162 : decode cX8_hangOn 162 = .ok (.iload 6, 2) := by decide +kernel
theorem dX8_hangOn_164 : decode cX8_hangOn 164 = .ok (.goto 7, 3) := by decide +kernel
theorem dX8_hangOn_167 : decode cX8_hangOn 167 = .ok (.iload 6, 2) := by decide +kernel
theorem dX8_hangOn_169 : decode cX8_hangOn 169 = .ok (.iconst 1, 1) := by decide +kernel
theorem dX8_hangOn_170 : decode cX8_hangOn 170 = .ok (.ixor, 1) := by decide +kernel
theorem dX8_hangOn_171 : decode cX8_hangOn 171 = .ok (.putfield 41, 3) := by decide +kernel
theorem dX8_hangOn_174 : decode cX8_hangOn 174 = .ok (.aload_n 0, 1) := by decide +kernel
theorem dX8_hangOn_175 : decode cX8_hangOn 175 = .ok (.aload_n 2, 1) := by decide +kernel
theorem dX8_hangOn_176 : decode cX8_hangOn 176 = .ok (.getfield 47, 3) := by decide +kernel
theorem dX8_hangOn_179 : decode cX8_hangOn 179 = .ok (.putfield 52, 3) := by decide +kernel
theorem dX8_hangOn_182 : decode cX8_hangOn 182 = .ok (.aload_n 0, 1) := by decide +kernel
theorem dX8_hangOn_183 : decode cX8_hangOn 183 = .ok (.aload_n 2, 1) := by decide +kernel
theorem dX8_hangOn_184 : decode cX8_hangOn 184 = .ok (.getfield 53, 3) := by decide +kernel
theorem dX8_hangOn_187 : decode cX8_hangOn 187 = .ok (.putfield 56, 3) := by decide +kernel
theorem dX8_hangOn_190 : decode cX8_hangOn 190 = .ok (.iload 4, 2) := by decide +kernel
theorem dX8_hangOn_192 : decode cX8_hangOn 192 = .ok (.iconst 1, 1) := by decide +kernel
theorem dX8_hangOn_193 : decode cX8_hangOn 193 = .ok (.if_icmp .ne 7, 3) := by decide +kernel
theorem dX8_hangOn_196 : decode cX8_hangOn 196 = .ok (.iconst 1, 1) := by decide +kernel
theorem dX8_hangOn_197 : decode cX8_hangOn 197 = .ok (.goto 14, 3) := by decide +kernel
theorem dX8_hangOn_200 : decode cX8_hangOn 200 = .ok (.iload 4, 2) := by decide +kernel
theorem dX8_hangOn_202 : decode cX8_hangOn 202 = .ok (.iconst 2, 1) := by decide +kernel
theorem dX8_hangOn_203 : decode cX8_hangOn 203 = .ok (.if_icmp .ne 7, 3) := by decide +kernel
theorem dX8_hangOn_206 : decode cX8_hangOn 206 = .ok (.iconst 3, 1) := by decide +kernel
theorem dX8_hangOn_207 : decode cX8_hangOn 207 = .ok (.goto 4, 3) := by decide +kernel
theorem dX8_hangOn_210 : decode cX8_hangOn 210 = .ok (.iconst 0, 1) := by decide +kernel
theorem dX8_hangOn_211 : decode cX8_hangOn 211 = .ok (.istore 8, 2) := by decide +kernel
theorem dX8_hangOn_213 : decode cX8_hangOn 213 = .ok (.iconst 0, 1) := by decide +kernel
theorem dX8_hangOn_214 : decode cX8_hangOn 214 = .ok (.istore 9, 2) := by decide +kernel
theorem dX8_hangOn_216 : decode cX8_hangOn 216 = .ok (.iload 9, 2) := by decide +kernel
theorem dX8_hangOn_218 : decode cX8_hangOn 218 = .ok (.iconst 3, 1) := by decide +kernel
theorem dX8_hangOn_219 : decode cX8_hangOn 219 = .ok (.if_icmp .ge 84, 3) := by decide +kernel
theorem dX8_hangOn_222 : decode cX8_hangOn 222 = .ok (.aload_n 0, 1) := by decide +kernel
theorem dX8_hangOn_223 : decode cX8_hangOn 223 = .ok (.getfield 31, 3) := by decide +kernel
theorem dX8_hangOn_226 : decode cX8_hangOn 226 = .ok (.iload 9, 2) := by decide +kernel
theorem dX8_hangOn_228 : decode cX8_hangOn 228 = .ok (.aload_n 1, 1) := by decide +kernel
theorem dX8_hangOn_229 : decode cX8_hangOn 229 = .ok (.iload 8, 2) := by decide +kernel
theorem dX8_hangOn_231 : decode cX8_hangOn 231 = .ok (.iload 9, 2) := by decide +kernel
theorem dX8_hangOn_233 : decode cX8_hangOn 233 = .ok (.invokevirtual 70, 3) := by decide +kernel
theorem dX8_hangOn_236 : decode cX8_hangOn 236 = .ok (.aload_n 2, 1) := by decide +kernel
theorem dX8_hangOn_237 : decode cX8_hangOn 237 = .ok (.getfield 74, 3) := by decide +kernel
theorem dX8_hangOn_240 : decode cX8_hangOn 240 = .ok (.iload 7, 2) := by decide +kernel
theorem dX8_hangOn_242 : decode cX8_hangOn 242 = .ok (.ifCond .eq 10, 3) := by decide +kernel
theorem dX8_hangOn_245 : decode cX8_hangOn 245 = .ok (.aload_n 1, 1) := by decide +kernel
theorem dX8_hangOn_246 : decode cX8_hangOn 246 = .ok (.getfield 37, 3) := by decide +kernel
theorem dX8_hangOn_249 : decode cX8_hangOn 249 = .ok (.goto 7, 3) := by decide +kernel
theorem dX8_hangOn_252 : decode cX8_hangOn 252 = .ok (.aload_n 1, 1) := by decide +kernel
theorem dX8_hangOn_253 : decode cX8_hangOn 253 = .ok (.getfield 41, 3) := by decide +kernel
theorem dX8_hangOn_256 : decode cX8_hangOn 256 = .ok (.iload 9, 2) := by decide +kernel
theorem dX8_hangOn_258 : decode cX8_hangOn 258 = .ok (.invokestatic 77, 3) := by decide +kernel
theorem dX8_hangOn_261 : decode cX8_hangOn 261 = .ok (.imul, 1) := by decide +kernel
theorem dX8_hangOn_262 : decode cX8_hangOn 262 = .ok (.iadd, 1) := by decide +kernel
theorem dX8_hangOn_263 : decode cX8_hangOn 263 = .ok (.iastore, 1) := by decide +kernel
theorem dX8_hangOn_264 : decode cX8_hangOn 264 = .ok (.iload 4, 2) := by decide +kernel
theorem dX8_hangOn_266 : decode cX8_hangOn 266 = .ok (.ifCond .eq 9, 3) := by decide +kernel
theorem dX8_hangOn_269 : decode cX8_hangOn 269 = .ok (.iload 4, 2) := by decide +kernel
theorem dX8_hangOn_271 : decode cX8_hangOn 271 = .ok (.iconst 3, 1) := by decide +kernel
theorem dX8_hangOn_272 : decode cX8_hangOn 272 = .ok (.if_icmp .ne 25, 3) := by decide +kernel
theorem dX8_hangOn_275 : decode cX8_hangOn 275 = .ok (.aload_n 0, 1) := by decide +kernel
theorem dX8_hangOn_276 : decode cX8_hangOn 276 = .ok (.getfield 31, 3) := by decide +kernel
theorem dX8_hangOn_279 : decode cX8_hangOn 279 = .ok (.iload 9, 2) := by decide +kernel
theorem dX8_hangOn_281 : decode cX8_hangOn 281 = .ok (.dup2, 1) := by decide +kernel
theorem dX8_hangOn_282 : decode cX8_hangOn 282 = .ok (.iaload, 1) := by decide +kernel
theorem dX8_hangOn_283 : decode cX8_hangOn 283 = .ok (.aload_n 2, 1) := by decide +kernel
theorem dX8_hangOn_284 : decode cX8_hangOn 284 = .ok (.getfield 80, 3) := by decide +kernel
theorem dX8_hangOn_287 : decode cX8_hangOn 287 = .ok (.iload 6, 2) := by decide +kernel
theorem dX8_hangOn_289 : decode cX8_hangOn 289 = .ok (.iload 9, 2) := by decide +kernel
theorem dX8_hangOn_291 : decode cX8_hangOn 291 = .ok (.invokestatic 77, 3) := by decide +kernel
theorem dX8_hangOn_294 : decode cX8_hangOn 294 = .ok (.imul, 1) := by decide +kernel
theorem dX8_hangOn_295 : decode cX8_hangOn 295 = .ok (.iadd, 1) := by decide +kernel
theorem dX8_hangOn_296 : decode cX8_hangOn 296 = .ok (.iastore, 1) := by decide +kernel
theorem dX8_hangOn_297 : decode cX8_hangOn 297 = .ok (.iinc 9 1, 3) := by decide +kernel
theorem dX8_hangOn_300 : decode cX8_hangOn 300 = .ok (.goto (-84), 3) := by decide +kernel
theorem dX8_hangOn_303 : decode cX8_hangOn 303 = .ok (.return_, 1) := by decide +kernel
theorem dX8_outward_0 : decode cX8_outward 0 = .ok (.iload_n 1, 1) := by decide +kernel
theorem dX8_outward_1 : decode cX8_outward 1 = .ok (.ifCond .ne 12, 3) := by decide +kernel
theorem dX8_outward_4 : decode cX8_outward 4 = .ok (.aload_n 0, 1) := by decide +kernel
theorem dX8_outward_5 : decode cX8_outward 5 = .ok (.getfield 41, 3) := by decide +kernel
theorem dX8_outward_8 : decode cX8_outward 8 = .ok (.iconst 1, 1) := by decide +kernel
theorem dX8_outward_9 : decode cX8_outward 9 = .ok (.ixor, 1) := by decide +kernel
theorem dX8_outward_10 : decode cX8_outward 10 = .ok (.goto 33, 3) := by decide +kernel
theorem dX8_outward_13 : decode cX8_outward 13 = .ok (.iload_n 1, 1) := by decide +kernel
theorem dX8_outward_14 : decode cX8_outward 14 = .ok (.iconst 1, 1) := by decide +kernel
theorem dX8_outward_15 : decode cX8_outward 15 = .ok (.if_icmp .ne 10, 3) := by decide +kernel
theorem dX8_outward_18 : decode cX8_outward 18 = .ok (.aload_n 0, 1) := by decide +kernel
theorem dX8_outward_19 : decode cX8_outward 19 = .ok (.getfield 37, 3) := by decide +kernel
theorem dX8_outward_22 : decode cX8_outward 22 = .ok (.goto 21, 3) := by decide +kernel
theorem dX8_outward_25 : decode cX8_outward 25 = .ok (.iload_n 1, 1) := by decide +kernel
theorem dX8_outward_26 : decode cX8_outward 26 = .ok (.iconst 2, 1) := by decide +kernel
theorem dX8_outward_27 : decode cX8_outward 27 = .ok (.if_icmp .ne 10, 3) := by decide +kernel
theorem dX8_outward_30 : decode cX8_outward 30 = .ok (.aload_n 0, 1) := by decide +kernel
theorem dX8_outward_31 : decode cX8_outward 31 = .ok (.getfield 41, 3) := by decide +kernel
theorem dX8_outward_34 : decode cX8_outward 34 = .ok (.goto 9, 3) := by decide +kernel
theorem dX8_outward_37 : decode cX8_outward 37 = .ok (.aload_n 0, 1) := by decide +kernel
theorem dX8_outward_38 : decode cX8_outward 38 = .ok (.getfield 37, 3) := by decide +kernel
theorem dX8_outward_41 : decode cX8_outward 41 = .ok (.iconst 1, 1) := by decide +kernel
theorem dX8_outward_42 : decode cX8_outward 42 = .ok (.ixor, 1) := by decide +kernel
theorem dX8_outward_43 : decode cX8_outward 43 = .ok (.ireturn, 1) := by decide +kernel
theorem dX8_part_0 : decode cX8_part 0 = .ok (.iload_n 0, 1) := by decide +kernel
theorem dX8_part_1 : decode cX8_part 1 = .ok (.iconst 1, 1) := by decide +kernel
theorem dX8_part_2 : decode cX8_part 2 = .ok (.ishr, 1) := by decide +kernel
theorem dX8_part_3 : decode cX8_part 3 = .ok (.iload_n 1, 1) := by decide +kernel
theorem dX8_part_4 : decode cX8_part 4 = .ok (.if_icmp .eq 7, 3) := by decide +kernel
theorem dX8_part_7 : decode cX8_part 7 = .ok (.iconst 0, 1) := by decide +kernel
theorem dX8_part_8 : decode cX8_part 8 = .ok (.goto 14, 3) := by decide +kernel
theorem dX8_part_11 : decode cX8_part 11 = .ok (.iload_n 0, 1) := by decide +kernel
theorem dX8_part_12 : decode cX8_part 12 = .ok (.iconst 1, 1) := by decide +kernel
theorem dX8_part_13 : decode cX8_part 13 = .ok (.iand, 1) := by decide +kernel
theorem dX8_part_14 : decode cX8_part 14 = .ok (.ifCond .ne 7, 3) := by decide +kernel
theorem dX8_part_17 : decode cX8_part 17 = .ok (.iconst 1, 1) := by decide +kernel
theorem dX8_part_18 : decode cX8_part 18 = .ok (.goto 4, 3) := by decide +kernel
theorem dX8_part_21 : decode cX8_part 21 = .ok (.iconst (-1), 1) := by decide +kernel
theorem dX8_part_22 : decode cX8_part 22 = .ok (.ireturn, 1) := by decide +kernel
theorem dX8_cornerAt_0 : decode cX8_cornerAt 0 = .ok (.iload_n 2, 1) := by decide +kernel
theorem dX8_cornerAt_1 : decode cX8_cornerAt 1 = .ok (.ifCond .lt 8, 3) := by decide +kernel
theorem dX8_cornerAt_4 : decode cX8_cornerAt 4 = .ok (.iload_n 2, 1) := by decide +kernel
theorem dX8_cornerAt_5 : decode cX8_cornerAt 5 = .ok (.iconst 2, 1) := by decide +kernel
theorem dX8_cornerAt_6 : decode cX8_cornerAt 6 = .ok (.if_icmp .le 5, 3) := by decide +kernel
theorem dX8_cornerAt_9 : decode cX8_cornerAt 9 = .ok (.iconst 0, 1) := by decide +kernel
theorem dX8_cornerAt_10 : decode cX8_cornerAt 10 = .ok (.ireturn, 1) := by decide +kernel
theorem dX8_cornerAt_11 : decode cX8_cornerAt 11 = .ok (.iload_n 1, 1) := by decide +kernel
theorem dX8_cornerAt_12 : decode cX8_cornerAt 12 = .ok (.iconst 1, 1) := by decide +kernel
theorem dX8_cornerAt_13 : decode cX8_cornerAt 13 = .ok (.if_icmp .eq 8, 3) := by decide +kernel
theorem dX8_cornerAt_16 : decode cX8_cornerAt 16 = .ok (.iload_n 1, 1) := by decide +kernel
theorem dX8_cornerAt_17 : decode cX8_cornerAt 17 = .ok (.iconst 2, 1) := by decide +kernel
theorem dX8_cornerAt_18 : decode cX8_cornerAt 18 = .ok (.if_icmp .ne 19, 3) := by decide +kernel
theorem dX8_cornerAt_21 : decode cX8_cornerAt 21 = .ok (.aload_n 0, 1) := by decide +kernel
theorem dX8_cornerAt_22 : decode cX8_cornerAt 22 = .ok (.getfield 52, 3) := by decide +kernel
theorem dX8_cornerAt_25 : decode cX8_cornerAt 25 = .ok (.aload_n 0, 1) := by decide +kernel
theorem dX8_cornerAt_26 : decode cX8_cornerAt 26 = .ok (.getfield 37, 3) := by decide +kernel
theorem dX8_cornerAt_29 : decode cX8_cornerAt 29 = .ok (.iload_n 2, 1) := by decide +kernel
theorem dX8_cornerAt_30 : decode cX8_cornerAt 30 = .ok (.invokestatic 77, 3) := by decide +kernel
theorem dX8_cornerAt_33 : decode cX8_cornerAt 33 = .ok (.imul, 1) := by decide +kernel
theorem dX8_cornerAt_34 : decode cX8_cornerAt 34 = .ok (.goto 4, 3) := by decide +kernel
theorem dX8_cornerAt_37 : decode cX8_cornerAt 37 = .ok (.iconst 0, 1) := by decide +kernel
theorem dX8_cornerAt_38 : decode cX8_cornerAt 38 = .ok (.istore_n 3, 1) := by decide +kernel
theorem dX8_cornerAt_39 : decode cX8_cornerAt 39 = .ok (.iload_n 1, 1) := by decide +kernel
theorem dX8_cornerAt_40 : decode cX8_cornerAt 40 = .ok (.iconst 2, 1) := by decide +kernel
theorem dX8_cornerAt_41 : decode cX8_cornerAt 41 = .ok (.if_icmp .eq 8, 3) := by decide +kernel
theorem dX8_cornerAt_44 : decode cX8_cornerAt 44 = .ok (.iload_n 1, 1) := by decide +kernel
theorem dX8_cornerAt_45 : decode cX8_cornerAt 45 = .ok (.iconst 3, 1) := by decide +kernel
theorem dX8_cornerAt_46 : decode cX8_cornerAt 46 = .ok (.if_icmp .ne 19, 3) := by decide +kernel
theorem dX8_cornerAt_49 : decode cX8_cornerAt 49 = .ok (.aload_n 0, 1) := by decide +kernel
theorem dX8_cornerAt_50 : decode cX8_cornerAt 50 = .ok (.getfield 56, 3) := by decide +kernel
theorem dX8_cornerAt_53 : decode cX8_cornerAt 53 = .ok (.aload_n 0, 1) := by decide +kernel
theorem dX8_cornerAt_54 : decode cX8_cornerAt 54 = .ok (.getfield 41, 3) := by decide +kernel
theorem dX8_cornerAt_57 : decode cX8_cornerAt 57 = .ok (.iload_n 2, 1) := by decide +kernel
theorem dX8_cornerAt_58 : decode cX8_cornerAt 58 = .ok (.invokestatic 77, 3) := by decide +kernel
theorem dX8_cornerAt_61 : decode cX8_cornerAt 61 = .ok (.imul, 1) := by decide +kernel
theorem dX8_cornerAt_62 : decode cX8_cornerAt 62 = .ok (.goto 4, 3) := by decide +kernel
theorem dX8_cornerAt_65 : decode cX8_cornerAt 65 = .ok (.iconst 0, 1) := by decide +kernel
theorem dX8_cornerAt_66 : decode cX8_cornerAt 66 = .ok (.istore 4, 2) := by decide +kernel
theorem dX8_cornerAt_68 : decode cX8_cornerAt 68 = .ok (.aload_n 0, 1) := by decide +kernel
theorem dX8_cornerAt_69 : decode cX8_cornerAt 69 = .ok (.getfield 31, 3) := by decide +kernel
theorem dX8_cornerAt_72 : decode cX8_cornerAt 72 = .ok (.iload_n 2, 1) := by decide +kernel
theorem dX8_cornerAt_73 : decode cX8_cornerAt 73 = .ok (.iaload, 1) := by decide +kernel
theorem dX8_cornerAt_74 : decode cX8_cornerAt 74 = .ok (.iload_n 3, 1) := by decide +kernel
theorem dX8_cornerAt_75 : decode cX8_cornerAt 75 = .ok (.iadd, 1) := by decide +kernel
theorem dX8_cornerAt_76 : decode cX8_cornerAt 76 = .ok (.iload 4, 2) := by decide +kernel
theorem dX8_cornerAt_78 : decode cX8_cornerAt 78 = .ok (.iadd, 1) := by decide +kernel
theorem dX8_cornerAt_79 : decode cX8_cornerAt 79 = .ok (.ireturn, 1) := by decide +kernel
theorem dX8_measure_0 : decode cX8_measure 0 = .ok (.iconst 0, 1) := by decide +kernel
theorem dX8_measure_1 : decode cX8_measure 1 = .ok (.istore_n 1, 1) := by decide +kernel
theorem dX8_measure_2 : decode cX8_measure 2 = .ok (.iload_n 1, 1) := by decide +kernel
theorem dX8_measure_3 : decode cX8_measure 3 = .ok (.iconst 3, 1) := by decide +kernel
theorem dX8_measure_4 : decode cX8_measure 4 = .ok (.if_icmp .ge 45, 3) := by decide +kernel
theorem dX8_measure_7 : decode cX8_measure 7 = .ok (.aload_n 0, 1) := by decide +kernel
theorem dX8_measure_8 : decode cX8_measure 8 = .ok (.getfield 31, 3) := by decide +kernel
theorem dX8_measure_11 : decode cX8_measure 11 = .ok (.iload_n 1, 1) := by decide +kernel
theorem dX8_measure_12 : decode cX8_measure 12 = .ok (.iaload, 1) := by decide +kernel
theorem dX8_measure_13 : decode cX8_measure 13 = .ok (.istore_n 2, 1) := by decide +kernel
theorem dX8_measure_14 : decode cX8_measure 14 = .ok (.aload_n 0, 1) := by decide +kernel
theorem dX8_measure_15 : decode cX8_measure 15 = .ok (.iconst 2, 1) := by decide +kernel
theorem dX8_measure_16 : decode cX8_measure 16 = .ok (.iload_n 1, 1) := by decide +kernel
theorem dX8_measure_17 : decode cX8_measure 17 = .ok (.invokevirtual 70, 3) := by decide +kernel
theorem dX8_measure_20 : decode cX8_measure 20 = .ok (.istore_n 3, 1) := by decide +kernel
theorem dX8_measure_21 : decode cX8_measure 21 = .ok (.aload_n 0, 1) := by decide +kernel
theorem dX8_measure_22 : decode cX8_measure 22 = .ok (.getfield 7, 3) := by decide +kernel
theorem dX8_measure_25 : decode cX8_measure 25 = .ok (.iload_n 1, 1) := by decide +kernel
theorem dX8_measure_26 : decode cX8_measure 26 = .ok (.iload_n 2, 1) := by decide +kernel
theorem dX8_measure_27 : decode cX8_measure 27 = .ok (.iload_n 3, 1) := by decide +kernel
theorem dX8_measure_28 : decode cX8_measure 28 = .ok (.invokestatic 83, 3) := by decide +kernel
theorem dX8_measure_31 : decode cX8_measure 31 = .ok (.iastore, 1) := by decide +kernel
theorem dX8_measure_32 : decode cX8_measure 32 = .ok (.aload_n 0, 1) := by decide +kernel
theorem dX8_measure_33 : decode cX8_measure 33 = .ok (.getfield 13, 3) := by decide +kernel
theorem dX8_measure_36 : decode cX8_measure 36 = .ok (.iload_n 1, 1) := by decide +kernel
theorem dX8_measure_37 : decode cX8_measure 37 = .ok (.iload_n 2, 1) := by decide +kernel
theorem dX8_measure_38 : decode cX8_measure 38 = .ok (.iload_n 3, 1) := by decide +kernel
theorem dX8_measure_39 : decode cX8_measure 39 = .ok (.invokestatic 88, 3) := by decide +kernel
theorem dX8_measure_42 : decode cX8_measure 42 = .ok (.iastore, 1) := by decide +kernel
theorem dX8_measure_43 : decode cX8_measure 43 = .ok (.iinc 1 1, 3) := by decide +kernel
theorem dX8_measure_46 : decode cX8_measure 46 = .ok (.goto (-44), 3) := by decide +kernel
theorem dX8_measure_49 : decode cX8_measure 49 = .ok (.iconst 0, 1) := by decide +kernel
theorem dX8_measure_50 : decode cX8_measure 50 = .ok (.istore_n 1, 1) := by decide +kernel
theorem dX8_measure_51 : decode cX8_measure 51 = .ok (.iload_n 1, 1) := by decide +kernel
theorem dX8_measure_52 : decode cX8_measure 52 = .ok (.iconst 4, 1) := by decide +kernel
theorem dX8_measure_53 : decode cX8_measure 53 = .ok (.if_icmp .ge 130, 3) := by decide +kernel
theorem dX8_measure_56 : decode cX8_measure 56 = .ok (.iload_n 1, 1) := by decide +kernel
theorem dX8_measure_57 : decode cX8_measure 57 = .ok (.iconst 1, 1) := by decide +kernel
theorem dX8_measure_58 : decode cX8_measure 58 = .ok (.iand, 1) := by decide +kernel
theorem dX8_measure_59 : decode cX8_measure 59 = .ok (.ifCond .ne 10, 3) := by decide +kernel
theorem dX8_measure_62 : decode cX8_measure 62 = .ok (.aload_n 0, 1) := by decide +kernel
theorem dX8_measure_63 : decode cX8_measure 63 = .ok (.getfield 37, 3) := by decide +kernel
theorem dX8_measure_66 : decode cX8_measure 66 = .ok (.goto 7, 3) := by decide +kernel
theorem dX8_measure_69 : decode cX8_measure 69 = .ok (.aload_n 0, 1) := by decide +kernel
theorem dX8_measure_70 : decode cX8_measure 70 = .ok (.getfield 41, 3) := by decide +kernel
theorem dX8_measure_73 : decode cX8_measure 73 = .ok (.iconst 1, 1) := by decide +kernel
theorem dX8_measure_74 : decode cX8_measure 74 = .ok (.ishr, 1) := by decide +kernel
theorem dX8_measure_75 : decode cX8_measure 75 = .ok (.istore_n 2, 1) := by decide +kernel
theorem dX8_measure_76 : decode cX8_measure 76 = .ok (.aload_n 0, 1) := by decide +kernel
theorem dX8_measure_77 : decode cX8_measure 77 = .ok (.getstatic 91, 3) := by decide +kernel
theorem dX8_measure_80 : decode cX8_measure 80 = .ok (.iload_n 1, 1) := by decide +kernel
theorem dX8_measure_81 : decode cX8_measure 81 = .ok (.iaload, 1) := by decide +kernel
theorem dX8_measure_82 : decode cX8_measure 82 = .ok (.iload_n 2, 1) := by decide +kernel
theorem dX8_measure_83 : decode cX8_measure 83 = .ok (.invokevirtual 70, 3) := by decide +kernel
theorem dX8_measure_86 : decode cX8_measure 86 = .ok (.istore_n 3, 1) := by decide +kernel
theorem dX8_measure_87 : decode cX8_measure 87 = .ok (.aload_n 0, 1) := by decide +kernel
theorem dX8_measure_88 : decode cX8_measure 88 = .ok (.getstatic 94, 3) := by decide +kernel
theorem dX8_measure_91 : decode cX8_measure 91 = .ok (.iload_n 1, 1) := by decide +kernel
theorem dX8_measure_92 : decode cX8_measure 92 = .ok (.iaload, 1) := by decide +kernel
theorem dX8_measure_93 : decode cX8_measure 93 = .ok (.iload_n 2, 1) := by decide +kernel
theorem dX8_measure_94 : decode cX8_measure 94 = .ok (.invokevirtual 70, 3) := by decide +kernel
theorem dX8_measure_97 : decode cX8_measure 97 = .ok (.istore 4, 2) := by decide +kernel
theorem dX8_measure_99 : decode cX8_measure 99 = .ok (.aload_n 0, 1) := by decide +kernel
theorem dX8_measure_100 : decode cX8_measure 100 = .ok (.getfield 16, 3) := by decide +kernel
theorem dX8_measure_103 : decode cX8_measure 103 = .ok (.iload_n 1, 1) := by decide +kernel
theorem dX8_measure_104 : decode cX8_measure 104 = .ok (.iload_n 2, 1) := by decide +kernel
theorem dX8_measure_105 : decode cX8_measure 105 = .ok (.iastore, 1) := by decide +kernel
theorem dX8_measure_106 : decode cX8_measure 106 = .ok (.aload_n 0, 1) := by decide +kernel
theorem dX8_measure_107 : decode cX8_measure 107 = .ok (.getfield 34, 3) := by decide +kernel
theorem dX8_measure_110 : decode cX8_measure 110 = .ok (.iload_n 1, 1) := by decide +kernel
theorem dX8_measure_111 : decode cX8_measure 111 = .ok (.iload_n 3, 1) := by decide +kernel
theorem dX8_measure_112 : decode cX8_measure 112 = .ok (.iastore, 1) := by decide +kernel
theorem dX8_measure_113 : decode cX8_measure 113 = .ok (.aload_n 0, 1) := by decide +kernel
theorem dX8_measure_114 : decode cX8_measure 114 = .ok (.getfield 19, 3) := by decide +kernel
theorem dX8_measure_117 : decode cX8_measure 117 = .ok (.iload_n 1, 1) := by decide +kernel
theorem dX8_measure_118 : decode cX8_measure 118 = .ok (.iload_n 3, 1) := by decide +kernel
theorem dX8_measure_119 : decode cX8_measure 119 = .ok (.iload 4, 2) := by decide +kernel
theorem dX8_measure_121 : decode cX8_measure 121 = .ok (.invokestatic 83, 3) := by decide +kernel
theorem dX8_measure_124 : decode cX8_measure 124 = .ok (.iastore, 1) := by decide +kernel
theorem dX8_measure_125 : decode cX8_measure 125 = .ok (.aload_n 0, 1) := by decide +kernel
theorem dX8_measure_126 : decode cX8_measure 126 = .ok (.getfield 22, 3) := by decide +kernel
theorem dX8_measure_129 : decode cX8_measure 129 = .ok (.iload_n 1, 1) := by decide +kernel
theorem dX8_measure_130 : decode cX8_measure 130 = .ok (.iload_n 3, 1) := by decide +kernel
theorem dX8_measure_131 : decode cX8_measure 131 = .ok (.iload 4, 2) := by decide +kernel
theorem dX8_measure_133 : decode cX8_measure 133 = .ok (.invokestatic 88, 3) := by decide +kernel
theorem dX8_measure_136 : decode cX8_measure 136 = .ok (.iastore, 1) := by decide +kernel
theorem dX8_measure_137 : decode cX8_measure 137 = .ok (.aload_n 0, 1) := by decide +kernel
theorem dX8_measure_138 : decode cX8_measure 138 = .ok (.getfield 25, 3) := by decide +kernel
theorem dX8_measure_141 : decode cX8_measure 141 = .ok (.iload_n 1, 1) := by decide +kernel
theorem dX8_measure_142 : decode cX8_measure 142 = .ok (.aload_n 0, 1) := by decide +kernel
theorem dX8_measure_143 : decode cX8_measure 143 = .ok (.getstatic 91, 3) := by decide +kernel
theorem dX8_measure_146 : decode cX8_measure 146 = .ok (.iload_n 1, 1) := by decide +kernel
theorem dX8_measure_147 : decode cX8_measure 147 = .ok (.iaload, 1) := by decide +kernel
theorem dX8_measure_148 : decode cX8_measure 148 = .ok (.iload_n 2, 1) := by decide +kernel
theorem dX8_measure_149 : decode cX8_measure 149 = .ok (.iconst 1, 1) := by decide +kernel
theorem dX8_measure_150 : decode cX8_measure 150 = .ok (.iadd, 1) := by decide +kernel
theorem dX8_measure_151 : decode cX8_measure 151 = .ok (.iconst 3, 1) := by decide +kernel
theorem dX8_measure_152 : decode cX8_measure 152 = .ok (.irem, 1) := by decide +kernel
theorem dX8_measure_153 : decode cX8_measure 153 = .ok (.invokevirtual 70, 3) := by decide +kernel
theorem dX8_measure_156 : decode cX8_measure 156 = .ok (.iastore, 1) := by decide +kernel
theorem dX8_measure_157 : decode cX8_measure 157 = .ok (.aload_n 0, 1) := by decide +kernel
theorem dX8_measure_158 : decode cX8_measure 158 = .ok (.getfield 28, 3) := by decide +kernel
theorem dX8_measure_161 : decode cX8_measure 161 = .ok (.iload_n 1, 1) := by decide +kernel
theorem dX8_measure_162 : decode cX8_measure 162 = .ok (.aload_n 0, 1) := by decide +kernel
theorem dX8_measure_163 : decode cX8_measure 163 = .ok (.getstatic 91, 3) := by decide +kernel
theorem dX8_measure_166 : decode cX8_measure 166 = .ok (.iload_n 1, 1) := by decide +kernel
theorem dX8_measure_167 : decode cX8_measure 167 = .ok (.iaload, 1) := by decide +kernel
theorem dX8_measure_168 : decode cX8_measure 168 = .ok (.iload_n 2, 1) := by decide +kernel
theorem dX8_measure_169 : decode cX8_measure 169 = .ok (.iconst 2, 1) := by decide +kernel
theorem dX8_measure_170 : decode cX8_measure 170 = .ok (.iadd, 1) := by decide +kernel
theorem dX8_measure_171 : decode cX8_measure 171 = .ok (.iconst 3, 1) := by decide +kernel
theorem dX8_measure_172 : decode cX8_measure 172 = .ok (.irem, 1) := by decide +kernel
theorem dX8_measure_173 : decode cX8_measure 173 = .ok (.invokevirtual 70, 3) := by decide +kernel
theorem dX8_measure_176 : decode cX8_measure 176 = .ok (.iastore, 1) := by decide +kernel
theorem dX8_measure_177 : decode cX8_measure 177 = .ok (.iinc 1 1, 3) := by decide +kernel
theorem dX8_measure_180 : decode cX8_measure 180 = .ok (.goto (-129), 3) := by decide +kernel
theorem dX8_measure_183 : decode cX8_measure 183 = .ok (.return_, 1) := by decide +kernel
theorem dX8_pointX_0 : decode cX8_pointX 0 = .ok (.iload_n 1, 1) := by decide +kernel
theorem dX8_pointX_1 : decode cX8_pointX 1 = .ok (.ifCond .lt 13, 3) := by decide +kernel
theorem dX8_pointX_4 : decode cX8_pointX 4 = .ok (.iload_n 1, 1) := by decide +kernel
theorem dX8_pointX_5 : decode cX8_pointX 5 = .ok (.iconst 3, 1) := by decide +kernel
theorem dX8_pointX_6 : decode cX8_pointX 6 = .ok (.if_icmp .gt 8, 3) := by decide +kernel
theorem dX8_pointX_9 : decode cX8_pointX 9 = .ok (.iload_n 1, 1) := by decide +kernel
theorem dX8_pointX_10 : decode cX8_pointX 10 = .ok (.iconst 3, 1) := by decide +kernel
theorem dX8_pointX_11 : decode cX8_pointX 11 = .ok (.if_icmp .ne 5, 3) := by decide +kernel
theorem dX8_pointX_14 : decode cX8_pointX 14 = .ok (.iconst 0, 1) := by decide +kernel
theorem dX8_pointX_15 : decode cX8_pointX 15 = .ok (.ireturn, 1) := by decide +kernel
theorem dX8_pointX_16 : decode cX8_pointX 16 = .ok (.iload_n 1, 1) := by decide +kernel
theorem dX8_pointX_17 : decode cX8_pointX 17 = .ok (.iconst 1, 1) := by decide +kernel
theorem dX8_pointX_18 : decode cX8_pointX 18 = .ok (.if_icmp .ne 10, 3) := by decide +kernel
theorem dX8_pointX_21 : decode cX8_pointX 21 = .ok (.aload_n 0, 1) := by decide +kernel
theorem dX8_pointX_22 : decode cX8_pointX 22 = .ok (.getfield 52, 3) := by decide +kernel
theorem dX8_pointX_25 : decode cX8_pointX 25 = .ok (.goto 14, 3) := by decide +kernel
theorem dX8_pointX_28 : decode cX8_pointX 28 = .ok (.iload_n 2, 1) := by decide +kernel
theorem dX8_pointX_29 : decode cX8_pointX 29 = .ok (.aload_n 0, 1) := by decide +kernel
theorem dX8_pointX_30 : decode cX8_pointX 30 = .ok (.getfield 34, 3) := by decide +kernel
theorem dX8_pointX_33 : decode cX8_pointX 33 = .ok (.iload_n 1, 1) := by decide +kernel
theorem dX8_pointX_34 : decode cX8_pointX 34 = .ok (.iaload, 1) := by decide +kernel
theorem dX8_pointX_35 : decode cX8_pointX 35 = .ok (.isub, 1) := by decide +kernel
theorem dX8_pointX_36 : decode cX8_pointX 36 = .ok (.invokestatic 97, 3) := by decide +kernel
theorem dX8_pointX_39 : decode cX8_pointX 39 = .ok (.ireturn, 1) := by decide +kernel
theorem dX8_pointY_0 : decode cX8_pointY 0 = .ok (.iload_n 1, 1) := by decide +kernel
theorem dX8_pointY_1 : decode cX8_pointY 1 = .ok (.ifCond .le 8, 3) := by decide +kernel
theorem dX8_pointY_4 : decode cX8_pointY 4 = .ok (.iload_n 1, 1) := by decide +kernel
theorem dX8_pointY_5 : decode cX8_pointY 5 = .ok (.iconst 3, 1) := by decide +kernel
theorem dX8_pointY_6 : decode cX8_pointY 6 = .ok (.if_icmp .le 5, 3) := by decide +kernel
theorem dX8_pointY_9 : decode cX8_pointY 9 = .ok (.iconst 0, 1) := by decide +kernel
theorem dX8_pointY_10 : decode cX8_pointY 10 = .ok (.ireturn, 1) := by decide +kernel
theorem dX8_pointY_11 : decode cX8_pointY 11 = .ok (.iload_n 1, 1) := by decide +kernel
theorem dX8_pointY_12 : decode cX8_pointY 12 = .ok (.iconst 2, 1) := by decide +kernel
theorem dX8_pointY_13 : decode cX8_pointY 13 = .ok (.if_icmp .ne 10, 3) := by decide +kernel
theorem dX8_pointY_16 : decode cX8_pointY 16 = .ok (.aload_n 0, 1) := by decide +kernel
theorem dX8_pointY_17 : decode cX8_pointY 17 = .ok (.getfield 56, 3) := by decide +kernel
theorem dX8_pointY_20 : decode cX8_pointY 20 = .ok (.goto 14, 3) := by decide +kernel
theorem dX8_pointY_23 : decode cX8_pointY 23 = .ok (.iload_n 2, 1) := by decide +kernel
theorem dX8_pointY_24 : decode cX8_pointY 24 = .ok (.aload_n 0, 1) := by decide +kernel
theorem dX8_pointY_25 : decode cX8_pointY 25 = .ok (.getfield 34, 3) := by decide +kernel
theorem dX8_pointY_28 : decode cX8_pointY 28 = .ok (.iload_n 1, 1) := by decide +kernel
theorem dX8_pointY_29 : decode cX8_pointY 29 = .ok (.iaload, 1) := by decide +kernel
theorem dX8_pointY_30 : decode cX8_pointY 30 = .ok (.isub, 1) := by decide +kernel
theorem dX8_pointY_31 : decode cX8_pointY 31 = .ok (.invokestatic 97, 3) := by decide +kernel
theorem dX8_pointY_34 : decode cX8_pointY 34 = .ok (.ireturn, 1) := by decide +kernel
theorem dX8_lowOn_0 : decode cX8_lowOn 0 = .ok (.iload_n 1, 1) := by decide +kernel
theorem dX8_lowOn_1 : decode cX8_lowOn 1 = .ok (.ifCond .lt 17, 3) := by decide +kernel
theorem dX8_lowOn_4 : decode cX8_lowOn 4 = .ok (.iload_n 1, 1) := by decide +kernel
theorem dX8_lowOn_5 : decode cX8_lowOn 5 = .ok (.iconst 3, 1) := by decide +kernel
theorem dX8_lowOn_6 : decode cX8_lowOn 6 = .ok (.if_icmp .ge 12, 3) := by decide +kernel
theorem dX8_lowOn_9 : decode cX8_lowOn 9 = .ok (.aload_n 0, 1) := by decide +kernel
theorem dX8_lowOn_10 : decode cX8_lowOn 10 = .ok (.getfield 7, 3) := by decide +kernel
theorem dX8_lowOn_13 : decode cX8_lowOn 13 = .ok (.iload_n 1, 1) := by decide +kernel
theorem dX8_lowOn_14 : decode cX8_lowOn 14 = .ok (.iaload, 1) := by decide +kernel
theorem dX8_lowOn_15 : decode cX8_lowOn 15 = .ok (.goto 4, 3) := by decide +kernel
theorem dX8_lowOn_18 : decode cX8_lowOn 18 = .ok (.iconst 0, 1) := by decide +kernel
theorem dX8_lowOn_19 : decode cX8_lowOn 19 = .ok (.ireturn, 1) := by decide +kernel
theorem dX8_highOn_0 : decode cX8_highOn 0 = .ok (.iload_n 1, 1) := by decide +kernel
theorem dX8_highOn_1 : decode cX8_highOn 1 = .ok (.ifCond .lt 17, 3) := by decide +kernel
theorem dX8_highOn_4 : decode cX8_highOn 4 = .ok (.iload_n 1, 1) := by decide +kernel
theorem dX8_highOn_5 : decode cX8_highOn 5 = .ok (.iconst 3, 1) := by decide +kernel
theorem dX8_highOn_6 : decode cX8_highOn 6 = .ok (.if_icmp .ge 12, 3) := by decide +kernel
theorem dX8_highOn_9 : decode cX8_highOn 9 = .ok (.aload_n 0, 1) := by decide +kernel
theorem dX8_highOn_10 : decode cX8_highOn 10 = .ok (.getfield 13, 3) := by decide +kernel
theorem dX8_highOn_13 : decode cX8_highOn 13 = .ok (.iload_n 1, 1) := by decide +kernel
theorem dX8_highOn_14 : decode cX8_highOn 14 = .ok (.iaload, 1) := by decide +kernel
theorem dX8_highOn_15 : decode cX8_highOn 15 = .ok (.goto 4, 3) := by decide +kernel
theorem dX8_highOn_18 : decode cX8_highOn 18 = .ok (.iconst 0, 1) := by decide +kernel
theorem dX8_highOn_19 : decode cX8_highOn 19 = .ok (.ireturn, 1) := by decide +kernel
theorem dX8_commonOn_0 : decode cX8_commonOn 0 = .ok (.aload_n 0, 1) := by decide +kernel
theorem dX8_commonOn_1 : decode cX8_commonOn 1 = .ok (.iload_n 1, 1) := by decide +kernel
theorem dX8_commonOn_2 : decode cX8_commonOn 2 = .ok (.invokevirtual 100, 3) := by decide +kernel
theorem dX8_commonOn_5 : decode cX8_commonOn 5 = .ok (.aload_n 2, 1) := by decide +kernel
theorem dX8_commonOn_6 : decode cX8_commonOn 6 = .ok (.iload_n 1, 1) := by decide +kernel
theorem dX8_commonOn_7 : decode cX8_commonOn 7 = .ok (.invokevirtual 100, 3) := by decide +kernel
theorem dX8_commonOn_10 : decode cX8_commonOn 10 = .ok (.invokestatic 83, 3) := by decide +kernel
theorem dX8_commonOn_13 : decode cX8_commonOn 13 = .ok (.aload_n 0, 1) := by decide +kernel
theorem dX8_commonOn_14 : decode cX8_commonOn 14 = .ok (.iload_n 1, 1) := by decide +kernel
theorem dX8_commonOn_15 : decode cX8_commonOn 15 = .ok (.invokevirtual 103, 3) := by decide +kernel
theorem dX8_commonOn_18 : decode cX8_commonOn 18 = .ok (.aload_n 2, 1) := by decide +kernel
theorem dX8_commonOn_19 : decode cX8_commonOn 19 = .ok (.iload_n 1, 1) := by decide +kernel
theorem dX8_commonOn_20 : decode cX8_commonOn 20 = .ok (.invokevirtual 103, 3) := by decide +kernel
theorem dX8_commonOn_23 : decode cX8_commonOn 23 = .ok (.invokestatic 88, 3) := by decide +kernel
theorem dX8_commonOn_26 : decode cX8_commonOn 26 = .ok (.isub, 1) := by decide +kernel
theorem dX8_commonOn_27 : decode cX8_commonOn 27 = .ok (.ireturn, 1) := by decide +kernel
theorem dX8_isCutBy_0 : decode cX8_isCutBy 0 = .ok (.aload_n 1, 1) := by decide +kernel
theorem dX8_isCutBy_1 : decode cX8_isCutBy 1 = .ok (.getfield 44, 3) := by decide +kernel
theorem dX8_isCutBy_4 : decode cX8_isCutBy 4 = .ok (.iconst 1, 1) := by decide +kernel
theorem dX8_isCutBy_5 : decode cX8_isCutBy 5 = .ok (.ishr, 1) := by decide +kernel
theorem dX8_isCutBy_6 : decode cX8_isCutBy 6 = .ok (.istore_n 3, 1) := by decide +kernel
theorem dX8_isCutBy_7 : decode cX8_isCutBy 7 = .ok (.aload_n 1, 1) := by decide +kernel
theorem dX8_isCutBy_8 : decode cX8_isCutBy 8 = .ok (.iload_n 3, 1) := by decide +kernel
theorem dX8_isCutBy_9 : decode cX8_isCutBy 9 = .ok (.invokevirtual 103, 3) := by decide +kernel
theorem dX8_isCutBy_12 : decode cX8_isCutBy 12 = .ok (.istore 4, 2) := by decide +kernel
theorem dX8_isCutBy_14 : decode cX8_isCutBy 14 = .ok (.iload 4, 2) := by decide +kernel
theorem dX8_isCutBy_16 : decode cX8_isCutBy 16 = .ok (.aload_n 0, 1) := by decide +kernel
theorem dX8_isCutBy_17 : decode cX8_isCutBy 17 = .ok (.iload_n 3, 1) := by decide +kernel
theorem dX8_isCutBy_18 : decode cX8_isCutBy 18 = .ok (.invokevirtual 103, 3) := by decide +kernel
theorem dX8_isCutBy_21 : decode cX8_isCutBy 21 = .ok (.iload_n 2, 1) := by decide +kernel
theorem dX8_isCutBy_22 : decode cX8_isCutBy 22 = .ok (.iadd, 1) := by decide +kernel
theorem dX8_isCutBy_23 : decode cX8_isCutBy 23 = .ok (.if_icmp .le 19, 3) := by decide +kernel
theorem dX8_isCutBy_26 : decode cX8_isCutBy 26 = .ok (.iload 4, 2) := by decide +kernel
theorem dX8_isCutBy_28 : decode cX8_isCutBy 28 = .ok (.aload_n 0, 1) := by decide +kernel
theorem dX8_isCutBy_29 : decode cX8_isCutBy 29 = .ok (.iload_n 3, 1) := by decide +kernel
theorem dX8_isCutBy_30 : decode cX8_isCutBy 30 = .ok (.invokevirtual 100, 3) := by decide +kernel
theorem dX8_isCutBy_33 : decode cX8_isCutBy 33 = .ok (.iload_n 2, 1) := by decide +kernel
theorem dX8_isCutBy_34 : decode cX8_isCutBy 34 = .ok (.isub, 1) := by decide +kernel
theorem dX8_isCutBy_35 : decode cX8_isCutBy 35 = .ok (.if_icmp .ge 7, 3) := by decide +kernel
theorem dX8_isCutBy_38 : decode cX8_isCutBy 38 = .ok (.iconst 1, 1) := by decide +kernel
theorem dX8_isCutBy_39 : decode cX8_isCutBy 39 = .ok (.goto 4, 3) := by decide +kernel
theorem dX8_isCutBy_42 : decode cX8_isCutBy 42 = .ok (.iconst 0, 1) := by decide +kernel
theorem dX8_isCutBy_43 : decode cX8_isCutBy 43 = .ok (.ireturn, 1) := by decide +kernel
theorem dX9_init_0 : decode cX9_init 0 = .ok (.aload_n 0, 1) := by decide +kernel
theorem dX9_init_1 : decode cX9_init 1 = .ok (.invokespecial 3, 3) := by decide +kernel
theorem dX9_init_4 : decode cX9_init 4 = .ok (.aload_n 0, 1) := by decide +kernel
theorem dX9_init_5 : decode cX9_init 5 = .ok (.new 9, 3) := by decide +kernel
theorem dX9_init_8 : decode cX9_init 8 = .ok (.dup, 1) := by decide +kernel
theorem dX9_init_9 : decode cX9_init 9 = .ok (.invokespecial 11, 3) := by decide +kernel
theorem dX9_init_12 : decode cX9_init 12 = .ok (.putfield 12, 3) := by decide +kernel
theorem dX9_init_15 : decode cX9_init 15 = .ok (.aload_n 0, 1) := by decide +kernel
theorem dX9_init_16 : decode cX9_init 16 = .ok (.iconst 0, 1) := by decide +kernel
theorem dX9_init_17 : decode cX9_init 17 = .ok (.putfield 18, 3) := by decide +kernel
theorem dX9_init_20 : decode cX9_init 20 = .ok (.aload_n 0, 1) := by decide +kernel
theorem dX9_init_21 : decode cX9_init 21 = .ok (.iconst 0, 1) := by decide +kernel
theorem dX9_init_22 : decode cX9_init 22 = .ok (.putfield 22, 3) := by decide +kernel
theorem dX9_init_25 : decode cX9_init 25 = .ok (.aload_n 0, 1) := by decide +kernel
theorem dX9_init_26 : decode cX9_init 26 = .ok (.iconst 0, 1) := by decide +kernel
theorem dX9_init_27 : decode cX9_init 27 = .ok (.putfield 25, 3) := by decide +kernel
theorem dX9_init_30 : decode cX9_init 30 = .ok (.aload_n 0, 1) := by decide +kernel
theorem dX9_init_31 : decode cX9_init 31 = .ok (.iconst 0, 1) := by decide +kernel
theorem dX9_init_32 : decode cX9_init 32 = .ok (.putfield 28, 3) := by decide +kernel
theorem dX9_init_35 : decode cX9_init 35 = .ok (.aload_n 0, 1) := by decide +kernel
theorem dX9_init_36 : decode cX9_init 36 = .ok (.iconst 0, 1) := by decide +kernel
theorem dX9_init_37 : decode cX9_init 37 = .ok (.putfield 31, 3) := by decide +kernel
theorem dX9_init_40 : decode cX9_init 40 = .ok (.aload_n 0, 1) := by decide +kernel
theorem dX9_init_41 : decode cX9_init 41 = .ok (.iconst 0, 1) := by decide +kernel
theorem dX9_init_42 : decode cX9_init 42 = .ok (.putfield 34, 3) := by decide +kernel
theorem dX9_init_45 : decode cX9_init 45 = .ok (.aload_n 0, 1) := by decide +kernel
theorem dX9_init_46 : decode cX9_init 46 = .ok (.bipush 6, 2) := by decide +kernel
theorem dX9_init_48 : decode cX9_init 48 = .ok (.newarray .int, 2) := by decide +kernel
theorem dX9_init_50 : decode cX9_init 50 = .ok (.putfield 38, 3) := by decide +kernel
theorem dX9_init_53 : decode cX9_init 53 = .ok (.return_, 1) := by decide +kernel
theorem dX9_read_0 : decode cX9_read 0 = .ok (.aload_n 0, 1) := by decide +kernel
theorem dX9_read_1 : decode cX9_read 1 = .ok (.getfield 12, 3) := by decide +kernel
theorem dX9_read_4 : decode cX9_read 4 = .ok (.invokevirtual 42, 3) := by decide +kernel
theorem dX9_read_7 : decode cX9_read 7 = .ok (.aload_n 0, 1) := by decide +kernel
theorem dX9_read_8 : decode cX9_read 8 = .ok (.iconst 0, 1) := by decide +kernel
theorem dX9_read_9 : decode cX9_read 9 = .ok (.putfield 18, 3) := by decide +kernel
theorem dX9_read_12 : decode cX9_read 12 = .ok (.aload_n 0, 1) := by decide +kernel
theorem dX9_read_13 : decode cX9_read 13 = .ok (.iconst 0, 1) := by decide +kernel
theorem dX9_read_14 : decode cX9_read 14 = .ok (.putfield 25, 3) := by decide +kernel
theorem dX9_read_17 : decode cX9_read 17 = .ok (.aload_n 0, 1) := by decide +kernel
theorem dX9_read_18 : decode cX9_read 18 = .ok (.iconst 0, 1) := by decide +kernel
theorem dX9_read_19 : decode cX9_read 19 = .ok (.putfield 28, 3) := by decide +kernel
theorem dX9_read_22 : decode cX9_read 22 = .ok (.iconst 0, 1) := by decide +kernel
theorem dX9_read_23 : decode cX9_read 23 = .ok (.istore_n 3, 1) := by decide +kernel
theorem dX9_read_24 : decode cX9_read 24 = .ok (.iload_n 3, 1) := by decide +kernel
theorem dX9_read_25 : decode cX9_read 25 = .ok (.iload_n 2, 1) := by decide +kernel
theorem dX9_read_26 : decode cX9_read 26 = .ok (.if_icmp .ge 79, 3) := by decide +kernel
theorem dX9_read_29 : decode cX9_read 29 = .ok (.iload_n 3, 1) := by decide +kernel
theorem dX9_read_30 : decode cX9_read 30 = .ok (.aload_n 1, 1) := by decide +kernel
theorem dX9_read_31 : decode cX9_read 31 = .ok (.arraylength, 1) := by decide +kernel
theorem dX9_read_32 : decode cX9_read 32 = .ok (.if_icmp .ge 73, 3) := by decide +kernel
theorem dX9_read_35 : decode cX9_read 35 = .ok (.aload_n 0, 1) := by decide +kernel
theorem dX9_read_36 : decode cX9_read 36 = .ok (.getfield 18, 3) := by decide +kernel
theorem dX9_read_39 : decode cX9_read 39 = .ok (.ifCond .ne 66, 3) := by decide +kernel
theorem dX9_read_42 : decode cX9_read 42 = .ok (.aload_n 0, 1) := by decide +kernel
theorem dX9_read_43 : decode cX9_read 43 = .ok (.iconst 0, 1) := by decide +kernel
theorem dX9_read_44 : decode cX9_read 44 = .ok (.putfield 34, 3) := by decide +kernel
theorem dX9_read_47 : decode cX9_read 47 = .ok (.aload_n 0, 1) := by decide +kernel
theorem dX9_read_48 : decode cX9_read 48 = .ok (.aload_n 1, 1) := by decide +kernel
theorem dX9_read_49 : decode cX9_read 49 = .ok (.iload_n 2, 1) := by decide +kernel
theorem dX9_read_50 : decode cX9_read 50 = .ok (.iload_n 3, 1) := by decide +kernel
theorem dX9_read_51 : decode cX9_read 51 = .ok (.invokevirtual 45, 3) := by decide +kernel
theorem dX9_read_54 : decode cX9_read 54 = .ok (.aload_n 0, 1) := by decide +kernel
theorem dX9_read_55 : decode cX9_read 55 = .ok (.getfield 34, 3) := by decide +kernel
theorem dX9_read_58 : decode cX9_read 58 = .ok (.ifCond .eq 19, 3) := by decide +kernel
theorem dX9_read_61 : decode cX9_read 61 = .ok (.aload_n 0, 1) := by decide +kernel
theorem dX9_read_62 : decode cX9_read 62 = .ok (.invokevirtual 49, 3) := by decide +kernel
theorem dX9_read_65 : decode cX9_read 65 = .ok (.ifCond .ne 12, 3) := by decide +kernel
theorem dX9_read_68 : decode cX9_read 68 = .ok (.aload_n 0, 1) := by decide +kernel
theorem dX9_read_69 : decode cX9_read 69 = .ok (.iconst 3, 1) := by decide +kernel
theorem dX9_read_70 : decode cX9_read 70 = .ok (.iload_n 3, 1) := by decide +kernel
theorem dX9_read_71 : decode cX9_read 71 = .ok (.invokevirtual 53, 3) := by decide +kernel
theorem dX9_read_74 : decode cX9_read 74 = .ok (.goto 25, 3) := by decide +kernel
theorem dX9_read_77 : decode cX9_read 77 = .ok (.aload_n 0, 1) := by decide +kernel
theorem dX9_read_78 : decode cX9_read 78 = .ok (.getfield 34, 3) := by decide +kernel
theorem dX9_read_81 : decode cX9_read 81 = .ok (.ifCond .eq 18, 3) := by decide +kernel
theorem dX9_read_84 : decode cX9_read 84 = .ok (.aload_n 0, 1) := by decide +kernel
theorem dX9_read_85 : decode cX9_read 85 = .ok (.iconst 0, 1) := by decide +kernel
theorem dX9_read_86 : decode cX9_read 86 = .ok (.putfield 28, 3) := by decide +kernel
theorem dX9_read_89 : decode cX9_read 89 = .ok (.aload_n 0, 1) := by decide +kernel
theorem dX9_read_90 : decode cX9_read 90 = .ok (.dup, 1) := by decide +kernel
theorem dX9_read_91 : decode cX9_read 91 = .ok (.getfield 25, 3) := by decide +kernel
theorem dX9_read_94 : decode cX9_read 94 = .ok (.iconst 1, 1) := by decide +kernel
theorem dX9_read_95 : decode cX9_read 95 = .ok (.iadd, 1) := by decide +kernel
theorem dX9_read_96 : decode cX9_read 96 = .ok (.putfield 25, 3) := by decide +kernel
theorem dX9_read_99 : decode cX9_read 99 = .ok (.iinc 3 1, 3) := by decide +kernel
theorem dX9_read_102 : decode cX9_read 102 = .ok (.goto (-78), 3) := by decide +kernel
theorem dX9_read_105 : decode cX9_read 105 = .ok (.aload_n 0, 1) := by decide +kernel
theorem dX9_read_106 : decode cX9_read 106 = .ok (.getfield 18, 3) := by decide +kernel
theorem dX9_read_109 : decode cX9_read 109 = .ok (.ifCond .ne 16, 3) := by decide +kernel
theorem dX9_read_112 : decode cX9_read 112 = .ok (.aload_n 0, 1) := by decide +kernel
theorem dX9_read_113 : decode cX9_read 113 = .ok (.getfield 28, 3) := by decide +kernel
theorem dX9_read_116 : decode cX9_read 116 = .ok (.ifCond .eq 9, 3) := by decide +kernel
theorem dX9_read_119 : decode cX9_read 119 = .ok (.aload_n 0, 1) := by decide +kernel
theorem dX9_read_120 : decode cX9_read 120 = .ok (.iconst 2, 1) := by decide +kernel
theorem dX9_read_121 : decode cX9_read 121 = .ok (.iload_n 2, 1) := by decide +kernel
theorem dX9_read_122 : decode cX9_read 122 = .ok (.invokevirtual 53, 3) := by decide +kernel
theorem dX9_read_125 : decode cX9_read 125 = .ok (.aload_n 0, 1) := by decide +kernel
theorem dX9_read_126 : decode cX9_read 126 = .ok (.getfield 18, 3) := by decide +kernel
theorem dX9_read_129 : decode cX9_read 129 = .ok (.ifCond .ne 10, 3) := by decide +kernel
theorem dX9_read_132 : decode cX9_read 132 = .ok (.aload_n 0, 1) := by decide +kernel
theorem dX9_read_133 : decode cX9_read 133 = .ok (.getfield 25, 3) := by decide +kernel
theorem dX9_read_136 : decode cX9_read 136 = .ok (.goto 10, 3) := by decide +kernel
theorem dX9_read_139 : decode cX9_read 139 = .ok (.bipush (-10), 2) := by decide +kernel
theorem dX9_read_141 : decode cX9_read 141 = .ok (.aload_n 0, 1) := by decide +kernel
theorem dX9_read_142 : decode cX9_read 142 = .ok (.getfield 22, 3) := by decide +kernel
theorem dX9_read_145 : decode cX9_read 145 = .ok (.isub, 1) := by decide +kernel
theorem dX9_read_146 : decode cX9_read 146 = .ok (.ireturn, 1) := by decide +kernel
theorem dX9_fail_0 : decode cX9_fail 0 = .ok (.aload_n 0, 1) := by decide +kernel
theorem dX9_fail_1 : decode cX9_fail 1 = .ok (.iload_n 1, 1) := by decide +kernel
theorem dX9_fail_2 : decode cX9_fail 2 = .ok (.putfield 18, 3) := by decide +kernel
theorem dX9_fail_5 : decode cX9_fail 5 = .ok (.aload_n 0, 1) := by decide +kernel
theorem dX9_fail_6 : decode cX9_fail 6 = .ok (.iload_n 2, 1) := by decide +kernel
theorem dX9_fail_7 : decode cX9_fail 7 = .ok (.putfield 22, 3) := by decide +kernel
theorem dX9_fail_10 : decode cX9_fail 10 = .ok (.return_, 1) := by decide +kernel
theorem dX9_takeByte_0 : decode cX9_takeByte 0 = .ok (.iload_n 3, 1) := by decide +kernel
theorem dX9_takeByte_1 : decode cX9_takeByte 1 = .ok (.ifCond .lt 9, 3) := by decide +kernel
theorem dX9_takeByte_4 : decode cX9_takeByte 4 = .ok (.iload_n 3, 1) := by decide +kernel
theorem dX9_takeByte_5 : decode cX9_takeByte 5 = .ok (.aload_n 1, 1) := by decide +kernel
theorem dX9_takeByte_6 : decode cX9_takeByte 6 = .ok (.arraylength, 1) := by decide +kernel
theorem dX9_takeByte_7 : decode cX9_takeByte 7 = .ok (.if_icmp .lt 4, 3) := by decide +kernel
theorem dX9_takeByte_10 : decode cX9_takeByte 10 = .ok (.return_, 1) := by decide +kernel
theorem dX9_takeByte_11 : decode cX9_takeByte 11 = .ok (.aload_n 1, 1) := by decide +kernel
theorem dX9_takeByte_12 : decode cX9_takeByte 12 = .ok (.iload_n 3, 1) := by decide +kernel
theorem dX9_takeByte_13 : decode cX9_takeByte 13 = .ok (.iaload, 1) := by decide +kernel
theorem dX9_takeByte_14 : decode cX9_takeByte 14 = .ok (.istore 4, 2) := by decide +kernel
theorem dX9_takeByte_16 : decode cX9_takeByte 16 = .ok (.iload 4, 2) := by decide +kernel
theorem dX9_takeByte_18 : decode cX9_takeByte 18 = .ok (.invokestatic 57, 3) := by decide +kernel
theorem dX9_takeByte_21 : decode cX9_takeByte 21 = .ok (.ifCond .ne 10, 3) := by decide +kernel
theorem dX9_takeByte_24 : decode cX9_takeByte 24 = .ok (.iload 4, 2) := by decide +kernel
theorem dX9_takeByte_26 : decode cX9_takeByte 26 = .ok (.bipush 45, 2) := by decide +kernel
theorem dX9_takeByte_28 : decode cX9_takeByte 28 = .ok (.if_icmp .ne 57, 3) := by decide +kernel
theorem dX9_takeByte_31 : decode cX9_takeByte 31 = .ok (.iload_n 3, 1) := by decide +kernel
theorem dX9_takeByte_32 : decode cX9_takeByte 32 = .ok (.ifCond .le 28, 3) := by decide +kernel
theorem dX9_takeByte_35 : decode cX9_takeByte 35 = .ok (.aload_n 1, 1) := by decide +kernel
theorem dX9_takeByte_36 : decode cX9_takeByte 36 = .ok (.iload_n 3, 1) := by decide +kernel
theorem dX9_takeByte_37 : decode cX9_takeByte 37 = .ok (.iconst 1, 1) := by decide +kernel
theorem dX9_takeByte_38 : decode cX9_takeByte 38 = .ok (.isub, 1) := by decide +kernel
theorem dX9_takeByte_39 : decode cX9_takeByte 39 = .ok (.iaload, 1) := by decide +kernel
theorem dX9_takeByte_40 : decode cX9_takeByte 40 = .ok (.invokestatic 57, 3) := by decide +kernel
theorem dX9_takeByte_43 : decode cX9_takeByte 43 = .ok (.ifCond .ne 13, 3) := by decide +kernel
theorem dX9_takeByte_46 : decode cX9_takeByte 46 = .ok (.aload_n 1, 1) := by decide +kernel
theorem dX9_takeByte_47 : decode cX9_takeByte 47 = .ok (.iload_n 3, 1) := by decide +kernel
theorem dX9_takeByte_48 : decode cX9_takeByte 48 = .ok (.iconst 1, 1) := by decide +kernel
theorem dX9_takeByte_49 : decode cX9_takeByte 49 = .ok (.isub, 1) := by decide +kernel
theorem dX9_takeByte_50 : decode cX9_takeByte 50 = .ok (.iaload, 1) := by decide +kernel
theorem dX9_takeByte_51 : decode cX9_takeByte 51 = .ok (.bipush 45, 2) := by decide +kernel
theorem dX9_takeByte_53 : decode cX9_takeByte 53 = .ok (.if_icmp .ne 7, 3) := by decide +kernel
theorem dX9_takeByte_56 : decode cX9_takeByte 56 = .ok (.iconst 1, 1) := by decide +kernel
theorem dX9_takeByte_57 : decode cX9_takeByte 57 = .ok (.goto 4, 3) := by decide +kernel
theorem dX9_takeByte_60 : decode cX9_takeByte 60 = .ok (.iconst 0, 1) := by decide +kernel
theorem dX9_takeByte_61 : decode cX9_takeByte 61 = .ok (.istore 5, 2) := by decide +kernel
theorem dX9_takeByte_63 : decode cX9_takeByte 63 = .ok (.iload 4, 2) := by decide +kernel
theorem dX9_takeByte_65 : decode cX9_takeByte 65 = .ok (.bipush 45, 2) := by decide +kernel
theorem dX9_takeByte_67 : decode cX9_takeByte 67 = .ok (.if_icmp .eq 8, 3) := by decide +kernel
theorem dX9_takeByte_70 : decode cX9_takeByte 70 = .ok (.iload 5, 2) := by decide +kernel
theorem dX9_takeByte_72 : decode cX9_takeByte 72 = .ok (.ifCond .ne 10, 3) := by decide +kernel
theorem dX9_takeByte_75 : decode cX9_takeByte 75 = .ok (.aload_n 0, 1) := by decide +kernel
theorem dX9_takeByte_76 : decode cX9_takeByte 76 = .ok (.aload_n 1, 1) := by decide +kernel
theorem dX9_takeByte_77 : decode cX9_takeByte 77 = .ok (.iload_n 2, 1) := by decide +kernel
theorem dX9_takeByte_78 : decode cX9_takeByte 78 = .ok (.iload_n 3, 1) := by decide +kernel
theorem dX9_takeByte_79 : decode cX9_takeByte 79 = .ok (.invokevirtual 61, 3) := by decide +kernel
theorem dX9_takeByte_82 : decode cX9_takeByte 82 = .ok (.goto 49, 3) := by decide +kernel
theorem dX9_takeByte_85 : decode cX9_takeByte 85 = .ok (.iload 4, 2) := by decide +kernel
theorem dX9_takeByte_87 : decode cX9_takeByte 87 = .ok (.bipush 59, 2) := by decide +kernel
theorem dX9_takeByte_89 : decode cX9_takeByte 89 = .ok (.if_icmp .ne 11, 3) := by decide +kernel
theorem dX9_takeByte_92 : decode cX9_takeByte 92 = .ok (.aload_n 0, 1) := by decide +kernel
theorem dX9_takeByte_93 : decode cX9_takeByte 93 = .ok (.iload_n 3, 1) := by decide +kernel
theorem dX9_takeByte_94 : decode cX9_takeByte 94 = .ok (.invokevirtual 64, 3) := by decide +kernel
theorem dX9_takeByte_97 : decode cX9_takeByte 97 = .ok (.goto 34, 3) := by decide +kernel
theorem dX9_takeByte_100 : decode cX9_takeByte 100 = .ok (.iload 4, 2) := by decide +kernel
theorem dX9_takeByte_102 : decode cX9_takeByte 102 = .ok (.invokestatic 68, 3) := by decide +kernel
theorem dX9_takeByte_105 : decode cX9_takeByte 105 = .ok (.ifCond .le 13, 3) := by decide +kernel
theorem dX9_takeByte_108 : decode cX9_takeByte 108 = .ok (.aload_n 0, 1) := by decide +kernel
theorem dX9_takeByte_109 : decode cX9_takeByte 109 = .ok (.iload 4, 2) := by decide +kernel
theorem dX9_takeByte_111 : decode cX9_takeByte 111 = .ok (.iload_n 3, 1) := by decide +kernel
theorem dX9_takeByte_112 : decode cX9_takeByte 112 = .ok (.invokevirtual 72, 3) := by decide +kernel
theorem dX9_takeByte_115 : decode cX9_takeByte 115 = .ok (.goto 16, 3) := by decide +kernel
theorem dX9_takeByte_118 : decode cX9_takeByte 118 = .ok (.iload 4, 2) := by decide +kernel
theorem dX9_takeByte_120 : decode cX9_takeByte 120 = .ok (.bipush 32, 2) := by decide +kernel
theorem dX9_takeByte_122 : decode cX9_takeByte 122 = .ok (.if_icmp .eq 9, 3) := by decide +kernel
theorem dX9_takeByte_125 : decode cX9_takeByte 125 = .ok (.aload_n 0, 1) := by decide +kernel
theorem dX9_takeByte_126 : decode cX9_takeByte 126 = .ok (.iconst 1, 1) := by decide +kernel
theorem dX9_takeByte_127 : decode cX9_takeByte 127 = .ok (.iload_n 3, 1) := by decide +kernel
theorem dX9_takeByte_128 : decode cX9_takeByte 128 = .ok (.invokevirtual 53, 3) := by decide +kernel
theorem dX9_takeByte_131 : decode cX9_takeByte 131 = .ok (.return_, 1) := by decide +kernel
theorem dX9_takeNumber_0 : decode cX9_takeNumber 0 = .ok (.iload_n 3, 1) := by decide +kernel
theorem dX9_takeNumber_1 : decode cX9_takeNumber 1 = .ok (.ifCond .lt 9, 3) := by decide +kernel
theorem dX9_takeNumber_4 : decode cX9_takeNumber 4 = .ok (.iload_n 3, 1) := by decide +kernel
theorem dX9_takeNumber_5 : decode cX9_takeNumber 5 = .ok (.aload_n 1, 1) := by decide +kernel
theorem dX9_takeNumber_6 : decode cX9_takeNumber 6 = .ok (.arraylength, 1) := by decide +kernel
theorem dX9_takeNumber_7 : decode cX9_takeNumber 7 = .ok (.if_icmp .lt 4, 3) := by decide +kernel
theorem dX9_takeNumber_10 : decode cX9_takeNumber 10 = .ok (.return_, 1) := by decide +kernel
theorem dX9_takeNumber_11 : decode cX9_takeNumber 11 = .ok (.aload_n 1, 1) := by decide +kernel
theorem dX9_takeNumber_12 : decode cX9_takeNumber 12 = .ok (.iload_n 3, 1) := by decide +kernel
theorem dX9_takeNumber_13 : decode cX9_takeNumber 13 = .ok (.iaload, 1) := by decide +kernel
theorem dX9_takeNumber_14 : decode cX9_takeNumber 14 = .ok (.bipush 45, 2) := by decide +kernel
theorem dX9_takeNumber_16 : decode cX9_takeNumber 16 = .ok (.if_icmp .ne 7, 3) := by decide +kernel
theorem dX9_takeNumber_19 : decode cX9_takeNumber 19 = .ok (.iconst 1, 1) := by decide +kernel
theorem dX9_takeNumber_20 : decode cX9_takeNumber 20 = .ok (.goto 4, 3) := by decide +kernel
theorem dX9_takeNumber_23 : decode cX9_takeNumber 23 = .ok (.iconst 0, 1) := by decide +kernel
theorem dX9_takeNumber_24 : decode cX9_takeNumber 24 = .ok (.istore 4, 2) := by decide +kernel
theorem dX9_takeNumber_26 : decode cX9_takeNumber 26 = .ok (.iconst 0, 1) := by decide +kernel
theorem dX9_takeNumber_27 : decode cX9_takeNumber 27 = .ok (.istore 5, 2) := by decide +kernel
theorem dX9_takeNumber_29 : decode cX9_takeNumber 29 = .ok (.iconst 0, 1) := by decide +kernel
theorem dX9_takeNumber_30 : decode cX9_takeNumber 30 = .ok (.istore 6, 2) := by decide +kernel
theorem dX9_takeNumber_32 : decode cX9_takeNumber 32 = .ok (.iload 4, 2) := by decide +kernel
theorem dX9_takeNumber_34 : decode cX9_takeNumber 34 = .ok (.ifCond .eq 9, 3) := by decide +kernel
theorem dX9_takeNumber_37 : decode cX9_takeNumber 37 = .ok (.iload_n 3, 1) := by decide +kernel
theorem dX9_takeNumber_38 : decode cX9_takeNumber 38 = .ok (.iconst 1, 1) := by decide +kernel
theorem dX9_takeNumber_39 : decode cX9_takeNumber 39 = .ok (.iadd, 1) := by decide +kernel
theorem dX9_takeNumber_40 : decode cX9_takeNumber 40 = .ok (.goto 4, 3) := by decide +kernel
theorem dX9_takeNumber_43 : decode cX9_takeNumber 43 = .ok (.iload_n 3, 1) := by decide +kernel
theorem dX9_takeNumber_44 : decode cX9_takeNumber 44 = .ok (.istore 7, 2) := by decide +kernel
theorem dX9_takeNumber_46 : decode cX9_takeNumber 46 = .ok (.iload 7, 2) := by decide +kernel
theorem dX9_takeNumber_48 : decode cX9_takeNumber 48 = .ok (.iload_n 2, 1) := by decide +kernel
theorem dX9_takeNumber_49 : decode cX9_takeNumber 49 = .ok (.if_icmp .ge 55, 3) := by decide +kernel
theorem dX9_takeNumber_52 : decode cX9_takeNumber 52 = .ok (.iload 7, 2) := by decide +kernel
theorem dX9_takeNumber_54 : decode cX9_takeNumber 54 = .ok (.aload_n 1, 1) := by decide +kernel
theorem dX9_takeNumber_55 : decode cX9_takeNumber 55 = .ok (.arraylength, 1) := by decide +kernel
theorem dX9_takeNumber_56 : decode cX9_takeNumber 56 = .ok (.if_icmp .ge 48, 3) := by decide +kernel
theorem dX9_takeNumber_59 : decode cX9_takeNumber 59 = .ok (.aload_n 1, 1) := by decide +kernel
theorem dX9_takeNumber_60 : decode cX9_takeNumber 60 = .ok (.iload 7, 2) := by decide +kernel
theorem dX9_takeNumber_62 : decode cX9_takeNumber 62 = .ok (.iaload, 1) := by decide +kernel
theorem dX9_takeNumber_63 : decode cX9_takeNumber 63 = .ok (.invokestatic 57, 3) := by decide +kernel
theorem dX9_takeNumber_66 : decode cX9_takeNumber 66 = .ok (.ifCond .eq 38, 3) := by decide +kernel
theorem dX9_takeNumber_69 : decode cX9_takeNumber 69 = .ok (.iinc 5 1, 3) := by decide +kernel
theorem dX9_takeNumber_72 : decode cX9_takeNumber 72 = .ok (.iload 5, 2) := by decide +kernel
theorem dX9_takeNumber_74 : decode cX9_takeNumber 74 = .ok (.iconst 3, 1) := by decide +kernel
theorem dX9_takeNumber_75 : decode cX9_takeNumber 75 = .ok (.if_icmp .le 8, 3) := by decide +kernel
theorem dX9_takeNumber_78 : decode cX9_takeNumber 78 = .ok (.iload 6, 2) := by decide +kernel
theorem dX9_takeNumber_80 : decode cX9_takeNumber 80 = .ok (.goto 16, 3) := by decide +kernel
theorem dX9_takeNumber_83 : decode cX9_takeNumber 83 = .ok (.bipush 10, 2) := by decide +kernel
theorem dX9_takeNumber_85 : decode cX9_takeNumber 85 = .ok (.iload 6, 2) := by decide +kernel
theorem dX9_takeNumber_87 : decode cX9_takeNumber 87 = .ok (.imul, 1) := by decide +kernel
theorem dX9_takeNumber_88 : decode cX9_takeNumber 88 = .ok (.aload_n 1, 1) := by decide +kernel
theorem dX9_takeNumber_89 : decode cX9_takeNumber 89 = .ok (.iload 7, 2) := by decide +kernel
theorem dX9_takeNumber_91 : decode cX9_takeNumber 91 = .ok (.iaload, 1) := by decide +kernel
theorem dX9_takeNumber_92 : decode cX9_takeNumber 92 = .ok (.iadd, 1) := by decide +kernel
theorem dX9_takeNumber_93 : decode cX9_takeNumber 93 = .ok (.bipush 48, 2) := by decide +kernel
theorem dX9_takeNumber_95 : decode cX9_takeNumber 95 = .ok (.isub, 1) := by decide +kernel
theorem dX9_takeNumber_96 : decode cX9_takeNumber 96 = .ok (.istore 6, 2) := by decide +kernel
theorem dX9_takeNumber_98 : decode cX9_takeNumber 98 = .ok (.iinc 7 1, 3) := by decide +kernel
theorem dX9_takeNumber_101 : decode cX9_takeNumber 101 = .ok (.goto (-55), 3) := by decide +kernel
theorem dX9_takeNumber_104 : decode cX9_takeNumber 104 = .ok (.iload 5, 2) := by decide +kernel
theorem dX9_takeNumber_106 : decode cX9_takeNumber 106 = .ok (.ifCond .eq 9, 3) := by decide +kernel
theorem dX9_takeNumber_109 : decode cX9_takeNumber 109 = .ok (.iload 5, 2) := by decide +kernel
theorem dX9_takeNumber_111 : decode cX9_takeNumber 111 = .ok (.iconst 3, 1) := by decide +kernel
theorem dX9_takeNumber_112 : decode cX9_takeNumber 112 = .ok (.if_icmp .le 12, 3) := by decide +kernel
theorem dX9_takeNumber_115 : decode cX9_takeNumber 115 = .ok (.aload_n 0, 1) := by decide +kernel
theorem dX9_takeNumber_116 : decode cX9_takeNumber 116 = .ok (.iconst 1, 1) := by decide +kernel
theorem dX9_takeNumber_117 : decode cX9_takeNumber 117 = .ok (.iload_n 3, 1) := by decide +kernel
theorem dX9_takeNumber_118 : decode cX9_takeNumber 118 = .ok (.invokevirtual 53, 3) := by decide +kernel
theorem dX9_takeNumber_121 : decode cX9_takeNumber 121 = .ok (.goto 77, 3) := by decide +kernel
theorem dX9_takeNumber_124 : decode cX9_takeNumber 124 = .ok (.aload_n 0, 1) := by decide +kernel
theorem dX9_takeNumber_125 : decode cX9_takeNumber 125 = .ok (.getfield 28, 3) := by decide +kernel
theorem dX9_takeNumber_128 : decode cX9_takeNumber 128 = .ok (.ifCond .eq 29, 3) := by decide +kernel
theorem dX9_takeNumber_131 : decode cX9_takeNumber 131 = .ok (.aload_n 0, 1) := by decide +kernel
theorem dX9_takeNumber_132 : decode cX9_takeNumber 132 = .ok (.getfield 31, 3) := by decide +kernel
theorem dX9_takeNumber_135 : decode cX9_takeNumber 135 = .ok (.aload_n 0, 1) := by decide +kernel
theorem dX9_takeNumber_136 : decode cX9_takeNumber 136 = .ok (.getfield 28, 3) := by decide +kernel
theorem dX9_takeNumber_139 : decode cX9_takeNumber 139 = .ok (.invokestatic 68, 3) := by decide +kernel
theorem dX9_takeNumber_142 : decode cX9_takeNumber 142 = .ok (.if_icmp .ge 15, 3) := by decide +kernel
theorem dX9_takeNumber_145 : decode cX9_takeNumber 145 = .ok (.aload_n 0, 1) := by decide +kernel
theorem dX9_takeNumber_146 : decode cX9_takeNumber 146 = .ok (.getfield 31, 3) := by decide +kernel
theorem dX9_takeNumber_149 : decode cX9_takeNumber 149 = .ok (.aload_n 0, 1) := by decide +kernel
theorem dX9_takeNumber_150 : decode cX9_takeNumber 150 = .ok (.getfield 38, 3) := by decide +kernel
theorem dX9_takeNumber_153 : decode cX9_takeNumber 153 = .ok (.arraylength, 1) := by decide +kernel
theorem dX9_takeNumber_154 : decode cX9_takeNumber 154 = .ok (.if_icmp .lt 12, 3) := by decide +kernel
theorem dX9_takeNumber_157 : decode cX9_takeNumber 157 = .ok (.aload_n 0, 1) := by decide +kernel
theorem dX9_takeNumber_158 : decode cX9_takeNumber 158 = .ok (.iconst 2, 1) := by decide +kernel
theorem dX9_takeNumber_159 : decode cX9_takeNumber 159 = .ok (.iload_n 3, 1) := by decide +kernel
theorem dX9_takeNumber_160 : decode cX9_takeNumber 160 = .ok (.invokevirtual 53, 3) := by decide +kernel
theorem dX9_takeNumber_163 : decode cX9_takeNumber 163 = .ok (.goto 35, 3) := by decide +kernel
theorem dX9_takeNumber_166 : decode cX9_takeNumber 166 = .ok (.aload_n 0, 1) := by decide +kernel
theorem dX9_takeNumber_167 : decode cX9_takeNumber 167 = .ok (.getfield 38, 3) := by decide +kernel
theorem dX9_takeNumber_170 : decode cX9_takeNumber 170 = .ok (.aload_n 0, 1) := by decide +kernel
theorem dX9_takeNumber_171 : decode cX9_takeNumber 171 = .ok (.getfield 31, 3) := by decide +kernel
theorem dX9_takeNumber_174 : decode cX9_takeNumber 174 = .ok (.iload 4, 2) := by decide +kernel
theorem dX9_takeNumber_176 : decode cX9_takeNumber 176 = .ok (.ifCond .eq 9, 3) := by decide +kernel
theorem dX9_takeNumber_179 : decode cX9_takeNumber 179 = .ok (.iload 6, 2) := by decide +kernel
theorem dX9_takeNumber_181 : decode cX9_takeNumber 181 = .ok (.ineg, 1) := by decide +kernel
theorem dX9_takeNumber_182 : decode cX9_takeNumber 182 = .ok (.goto 5, 3) := by decide +kernel
theorem dX9_takeNumber_185 : decode cX9_takeNumber 185 = .ok (.iload 6, 2) := by decide +kernel
theorem dX9_takeNumber_187 : decode cX9_takeNumber 187 = .ok (.iastore, 1) := by decide +kernel
theorem dX9_takeNumber_188 : decode cX9_takeNumber 188 = .ok (.aload_n 0, 1) := by decide +kernel
theorem dX9_takeNumber_189 : decode cX9_takeNumber 189 = .ok (.dup, 1) := by decide +kernel
theorem dX9_takeNumber_190 : decode cX9_takeNumber 190 = .ok (.getfield 31, 3) := by decide +kernel
theorem dX9_takeNumber_193 : decode cX9_takeNumber 193 = .ok (.iconst 1, 1) := by decide +kernel
theorem dX9_takeNumber_194 : decode cX9_takeNumber 194 = .ok (.iadd, 1) := by decide +kernel
theorem dX9_takeNumber_195 : decode cX9_takeNumber 195 = .ok (.putfield 31, 3) := by decide +kernel
theorem dX9_takeNumber_198 : decode cX9_takeNumber 198 = .ok (.return_, 1) := by decide +kernel
theorem dX9_beginItem_0 : decode cX9_beginItem 0 = .ok (.aload_n 0, 1) := by decide +kernel
theorem dX9_beginItem_1 : decode cX9_beginItem 1 = .ok (.getfield 28, 3) := by decide +kernel
theorem dX9_beginItem_4 : decode cX9_beginItem 4 = .ok (.ifCond .eq 10, 3) := by decide +kernel
theorem dX9_beginItem_7 : decode cX9_beginItem 7 = .ok (.aload_n 0, 1) := by decide +kernel
theorem dX9_beginItem_8 : decode cX9_beginItem 8 = .ok (.iconst 2, 1) := by decide +kernel
theorem dX9_beginItem_9 : decode cX9_beginItem 9 = .ok (.iload_n 2, 1) := by decide +kernel
theorem dX9_beginItem_10 : decode cX9_beginItem 10 = .ok (.invokevirtual 53, 3) := by decide +kernel
theorem dX9_beginItem_13 : decode cX9_beginItem 13 = .ok (.return_, 1) := by decide +kernel
theorem dX9_beginItem_14 : decode cX9_beginItem 14 = .ok (.aload_n 0, 1) := by decide +kernel
theorem dX9_beginItem_15 : decode cX9_beginItem 15 = .ok (.iload_n 1, 1) := by decide +kernel
theorem dX9_beginItem_16 : decode cX9_beginItem 16 = .ok (.putfield 28, 3) := by decide +kernel
theorem dX9_beginItem_19 : decode cX9_beginItem 19 = .ok (.aload_n 0, 1) := by decide +kernel
theorem dX9_beginItem_20 : decode cX9_beginItem 20 = .ok (.iconst 0, 1) := by decide +kernel
theorem dX9_beginItem_21 : decode cX9_beginItem 21 = .ok (.putfield 31, 3) := by decide +kernel
theorem dX9_beginItem_24 : decode cX9_beginItem 24 = .ok (.return_, 1) := by decide +kernel
theorem dX9_endItem_0 : decode cX9_endItem 0 = .ok (.aload_n 0, 1) := by decide +kernel
theorem dX9_endItem_1 : decode cX9_endItem 1 = .ok (.aload_n 0, 1) := by decide +kernel
theorem dX9_endItem_2 : decode cX9_endItem 2 = .ok (.getfield 28, 3) := by decide +kernel
theorem dX9_endItem_5 : decode cX9_endItem 5 = .ok (.ifCond .eq 21, 3) := by decide +kernel
theorem dX9_endItem_8 : decode cX9_endItem 8 = .ok (.aload_n 0, 1) := by decide +kernel
theorem dX9_endItem_9 : decode cX9_endItem 9 = .ok (.getfield 31, 3) := by decide +kernel
theorem dX9_endItem_12 : decode cX9_endItem 12 = .ok (.aload_n 0, 1) := by decide +kernel
theorem dX9_endItem_13 : decode cX9_endItem 13 = .ok (.getfield 28, 3) := by decide +kernel
theorem dX9_endItem_16 : decode cX9_endItem 16 = .ok (.invokestatic 68, 3) := by decide +kernel
theorem dX9_endItem_19 : decode cX9_endItem 19 = .ok (.if_icmp .lt 7, 3) := by decide +kernel
theorem dX9_endItem_22 : decode cX9_endItem 22 = .ok (.iconst 1, 1) := by decide +kernel
theorem dX9_endItem_23 : decode cX9_endItem 23 = .ok (.goto 4, 3) := by decide +kernel
theorem dX9_endItem_26 : decode cX9_endItem 26 = .ok (.iconst 0, 1) := by decide +kernel
theorem dX9_endItem_27 : decode cX9_endItem 27 = .ok (.putfield 34, 3) := by decide +kernel
theorem dX9_endItem_30 : decode cX9_endItem 30 = .ok (.aload_n 0, 1) := by decide +kernel
theorem dX9_endItem_31 : decode cX9_endItem 31 = .ok (.getfield 34, 3) := by decide +kernel
theorem dX9_endItem_34 : decode cX9_endItem 34 = .ok (.ifCond .ne 9, 3) := by decide +kernel
theorem dX9_endItem_37 : decode cX9_endItem 37 = .ok (.aload_n 0, 1) := by decide +kernel
theorem dX9_endItem_38 : decode cX9_endItem 38 = .ok (.iconst 2, 1) := by decide +kernel
theorem dX9_endItem_39 : decode cX9_endItem 39 = .ok (.iload_n 1, 1) := by decide +kernel
theorem dX9_endItem_40 : decode cX9_endItem 40 = .ok (.invokevirtual 53, 3) := by decide +kernel
theorem dX9_endItem_43 : decode cX9_endItem 43 = .ok (.return_, 1) := by decide +kernel
theorem dX9_isDigit_0 : decode cX9_isDigit 0 = .ok (.iload_n 0, 1) := by decide +kernel
theorem dX9_isDigit_1 : decode cX9_isDigit 1 = .ok (.bipush 48, 2) := by decide +kernel
theorem dX9_isDigit_3 : decode cX9_isDigit 3 = .ok (.if_icmp .lt 13, 3) := by decide +kernel
theorem dX9_isDigit_6 : decode cX9_isDigit 6 = .ok (.iload_n 0, 1) := by decide +kernel
theorem dX9_isDigit_7 : decode cX9_isDigit 7 = .ok (.bipush 57, 2) := by decide +kernel
theorem dX9_isDigit_9 : decode cX9_isDigit 9 = .ok (.if_icmp .gt 7, 3) := by decide +kernel
theorem dX9_isDigit_12 : decode cX9_isDigit 12 = .ok (.iconst 1, 1) := by decide +kernel
theorem dX9_isDigit_13 : decode cX9_isDigit 13 = .ok (.goto 4, 3) := by decide +kernel
theorem dX9_isDigit_16 : decode cX9_isDigit 16 = .ok (.iconst 0, 1) := by decide +kernel
theorem dX9_isDigit_17 : decode cX9_isDigit 17 = .ok (.ireturn, 1) := by decide +kernel
theorem dX9_numbersOf_0 : decode cX9_numbersOf 0 = .ok (.iload_n 0, 1) := by decide +kernel
theorem dX9_numbersOf_1 : decode cX9_numbersOf 1 = .ok (.tableswitch 102 97 115 #[100, 93, 102, 102, 102, 91, 102, 102, 98, 102, 102, 102, 102, 102, 102, 95, 102, 102, 91], 91) := by decide +kernel
theorem dX9_numbersOf_92 : decode cX9_numbersOf 92 = .ok (.iconst 2, 1) := by decide +kernel
theorem dX9_numbersOf_93 : decode cX9_numbersOf 93 = .ok (.ireturn, 1) := by decide +kernel
theorem dX9_numbersOf_94 : decode cX9_numbersOf 94 = .ok (.iconst 4, 1) := by decide +kernel
theorem dX9_numbersOf_95 : decode cX9_numbersOf 95 = .ok (.ireturn, 1) := by decide +kernel
theorem dX9_numbersOf_96 : decode cX9_numbersOf 96 = .ok (.bipush 6, 2) := by decide +kernel
theorem dX9_numbersOf_98 : decode cX9_numbersOf 98 = .ok (.ireturn, 1) := by decide +kernel
theorem dX9_numbersOf_99 : decode cX9_numbersOf 99 = .ok (.iconst 3, 1) := by decide +kernel
theorem dX9_numbersOf_100 : decode cX9_numbersOf 100 = .ok (.ireturn, 1) := by decide +kernel
theorem dX9_numbersOf_101 : decode cX9_numbersOf 101 = .ok (.iconst 5, 1) := by decide +kernel
theorem dX9_numbersOf_102 : decode cX9_numbersOf 102 = .ok (.ireturn, 1) := by decide +kernel
theorem dX9_numbersOf_103 : decode cX9_numbersOf 103 = .ok (.iconst 0, 1) := by decide +kernel
theorem dX9_numbersOf_104 : decode cX9_numbersOf 104 = .ok (.ireturn, 1) := by decide +kernel
theorem dX9_carryOut_0 : decode cX9_carryOut 0 = .ok (.aload_n 0, 1) := by decide +kernel
theorem dX9_carryOut_1 : decode cX9_carryOut 1 = .ok (.getfield 38, 3) := by decide +kernel
theorem dX9_carryOut_4 : decode cX9_carryOut 4 = .ok (.astore_n 1, 1) := by decide +kernel
theorem dX9_carryOut_5 : decode cX9_carryOut 5 = .ok (.aload_n 0, 1) := by decide +kernel
theorem dX9_carryOut_6 : decode cX9_carryOut 6 = .ok (.getfield 28, 3) := by decide +kernel
theorem dX9_carryOut_9 : decode cX9_carryOut 9 = .ok (.lookupswitch 193 #[(98, 89), (102, 144), (105, 149), (112, 139), (115, 51)], 51) := by decide +kernel
theorem dX9_carryOut_60 : decode cX9_carryOut 60 = .ok (.aload_n 0, 1) := by decide +kernel
theorem dX9_carryOut_61 : decode cX9_carryOut 61 = .ok (.getfield 12, 3) := by decide +kernel
theorem dX9_carryOut_64 : decode cX9_carryOut 64 = .ok (.aload_n 1, 1) := by decide +kernel
theorem dX9_carryOut_65 : decode cX9_carryOut 65 = .ok (.iconst 0, 1) := by decide +kernel
theorem dX9_carryOut_66 : decode cX9_carryOut 66 = .ok (.iaload, 1) := by decide +kernel
theorem dX9_carryOut_67 : decode cX9_carryOut 67 = .ok (.aload_n 1, 1) := by decide +kernel
theorem dX9_carryOut_68 : decode cX9_carryOut 68 = .ok (.iconst 1, 1) := by decide +kernel
theorem dX9_carryOut_69 : decode cX9_carryOut 69 = .ok (.iaload, 1) := by decide +kernel
theorem dX9_carryOut_70 : decode cX9_carryOut 70 = .ok (.invokevirtual 75, 3) := by decide +kernel
theorem dX9_carryOut_73 : decode cX9_carryOut 73 = .ok (.ifCond .ne 23, 3) := by decide +kernel
theorem dX9_carryOut_76 : decode cX9_carryOut 76 = .ok (.aload_n 0, 1) := by decide +kernel
theorem dX9_carryOut_77 : decode cX9_carryOut 77 = .ok (.getfield 12, 3) := by decide +kernel
theorem dX9_carryOut_80 : decode cX9_carryOut 80 = .ok (.aload_n 1, 1) := by decide +kernel
theorem dX9_carryOut_81 : decode cX9_carryOut 81 = .ok (.iconst 0, 1) := by decide +kernel
theorem dX9_carryOut_82 : decode cX9_carryOut 82 = .ok (.iaload, 1) := by decide +kernel
theorem dX9_carryOut_83 : decode cX9_carryOut 83 = .ok (.aload_n 1, 1) := by decide +kernel
theorem dX9_carryOut_84 : decode cX9_carryOut 84 = .ok (.iconst 1, 1) := by decide +kernel
theorem dX9_carryOut_85 : decode cX9_carryOut 85 = .ok (.iaload, 1) := by decide +kernel
theorem dX9_carryOut_86 : decode cX9_carryOut 86 = .ok (.invokevirtual 79, 3) := by decide +kernel
theorem dX9_carryOut_89 : decode cX9_carryOut 89 = .ok (.ifCond .lt 7, 3) := by decide +kernel
theorem dX9_carryOut_92 : decode cX9_carryOut 92 = .ok (.iconst 1, 1) := by decide +kernel
theorem dX9_carryOut_93 : decode cX9_carryOut 93 = .ok (.goto 4, 3) := by decide +kernel
theorem dX9_carryOut_96 : decode cX9_carryOut 96 = .ok (.iconst 0, 1) := by decide +kernel
theorem dX9_carryOut_97 : decode cX9_carryOut 97 = .ok (.ireturn, 1) := by decide +kernel
theorem dX9_carryOut_98 : decode cX9_carryOut 98 = .ok (.aload_n 0, 1) := by decide +kernel
theorem dX9_carryOut_99 : decode cX9_carryOut 99 = .ok (.getfield 12, 3) := by decide +kernel
theorem dX9_carryOut_102 : decode cX9_carryOut 102 = .ok (.aload_n 1, 1) := by decide +kernel
theorem dX9_carryOut_103 : decode cX9_carryOut 103 = .ok (.iconst 0, 1) := by decide +kernel
theorem dX9_carryOut_104 : decode cX9_carryOut 104 = .ok (.iaload, 1) := by decide +kernel
theorem dX9_carryOut_105 : decode cX9_carryOut 105 = .ok (.aload_n 1, 1) := by decide +kernel
theorem dX9_carryOut_106 : decode cX9_carryOut 106 = .ok (.iconst 1, 1) := by decide +kernel
theorem dX9_carryOut_107 : decode cX9_carryOut 107 = .ok (.iaload, 1) := by decide +kernel
theorem dX9_carryOut_108 : decode cX9_carryOut 108 = .ok (.aload_n 1, 1) := by decide +kernel
theorem dX9_carryOut_109 : decode cX9_carryOut 109 = .ok (.iconst 2, 1) := by decide +kernel
theorem dX9_carryOut_110 : decode cX9_carryOut 110 = .ok (.iaload, 1) := by decide +kernel
theorem dX9_carryOut_111 : decode cX9_carryOut 111 = .ok (.aload_n 1, 1) := by decide +kernel
theorem dX9_carryOut_112 : decode cX9_carryOut 112 = .ok (.iconst 3, 1) := by decide +kernel
theorem dX9_carryOut_113 : decode cX9_carryOut 113 = .ok (.iaload, 1) := by decide +kernel
theorem dX9_carryOut_114 : decode cX9_carryOut 114 = .ok (.invokevirtual 82, 3) := by decide +kernel
theorem dX9_carryOut_117 : decode cX9_carryOut 117 = .ok (.ifCond .ne 29, 3) := by decide +kernel
theorem dX9_carryOut_120 : decode cX9_carryOut 120 = .ok (.aload_n 0, 1) := by decide +kernel
theorem dX9_carryOut_121 : decode cX9_carryOut 121 = .ok (.getfield 12, 3) := by decide +kernel
theorem dX9_carryOut_124 : decode cX9_carryOut 124 = .ok (.aload_n 1, 1) := by decide +kernel
theorem dX9_carryOut_125 : decode cX9_carryOut 125 = .ok (.iconst 0, 1) := by decide +kernel
theorem dX9_carryOut_126 : decode cX9_carryOut 126 = .ok (.iaload, 1) := by decide +kernel
theorem dX9_carryOut_127 : decode cX9_carryOut 127 = .ok (.aload_n 1, 1) := by decide +kernel
theorem dX9_carryOut_128 : decode cX9_carryOut 128 = .ok (.iconst 1, 1) := by decide +kernel
theorem dX9_carryOut_129 : decode cX9_carryOut 129 = .ok (.iaload, 1) := by decide +kernel
theorem dX9_carryOut_130 : decode cX9_carryOut 130 = .ok (.aload_n 1, 1) := by decide +kernel
theorem dX9_carryOut_131 : decode cX9_carryOut 131 = .ok (.iconst 2, 1) := by decide +kernel
theorem dX9_carryOut_132 : decode cX9_carryOut 132 = .ok (.iaload, 1) := by decide +kernel
theorem dX9_carryOut_133 : decode cX9_carryOut 133 = .ok (.aload_n 1, 1) := by decide +kernel
theorem dX9_carryOut_134 : decode cX9_carryOut 134 = .ok (.iconst 3, 1) := by decide +kernel
theorem dX9_carryOut_135 : decode cX9_carryOut 135 = .ok (.iaload, 1) := by decide +kernel
theorem dX9_carryOut_136 : decode cX9_carryOut 136 = .ok (.invokevirtual 86, 3) := by decide +kernel
theorem dX9_carryOut_139 : decode cX9_carryOut 139 = .ok (.ifCond .lt 7, 3) := by decide +kernel
theorem dX9_carryOut_142 : decode cX9_carryOut 142 = .ok (.iconst 1, 1) := by decide +kernel
theorem dX9_carryOut_143 : decode cX9_carryOut 143 = .ok (.goto 4, 3) := by decide +kernel
theorem dX9_carryOut_146 : decode cX9_carryOut 146 = .ok (.iconst 0, 1) := by decide +kernel
theorem dX9_carryOut_147 : decode cX9_carryOut 147 = .ok (.ireturn, 1) := by decide +kernel
theorem dX9_carryOut_148 : decode cX9_carryOut 148 = .ok (.aload_n 0, 1) := by decide +kernel
theorem dX9_carryOut_149 : decode cX9_carryOut 149 = .ok (.invokevirtual 89, 3) := by decide +kernel
theorem dX9_carryOut_152 : decode cX9_carryOut 152 = .ok (.ireturn, 1) := by decide +kernel
theorem dX9_carryOut_153 : decode cX9_carryOut 153 = .ok (.aload_n 0, 1) := by decide +kernel
theorem dX9_carryOut_154 : decode cX9_carryOut 154 = .ok (.invokevirtual 92, 3) := by decide +kernel
theorem dX9_carryOut_157 : decode cX9_carryOut 157 = .ok (.ireturn, 1) := by decide +kernel
theorem dX9_carryOut_158 : decode cX9_carryOut 158 = .ok (.aload_n 0, 1) := by decide +kernel
theorem dX9_carryOut_159 : decode cX9_carryOut 159 = .ok (.getfield 12, 3) := by decide +kernel
theorem dX9_carryOut_162 : decode cX9_carryOut 162 = .ok (.aload_n 1, 1) := by decide +kernel
theorem dX9_carryOut_163 : decode cX9_carryOut 163 = .ok (.iconst 0, 1) := by decide +kernel
theorem dX9_carryOut_164 : decode cX9_carryOut 164 = .ok (.iaload, 1) := by decide +kernel
theorem dX9_carryOut_165 : decode cX9_carryOut 165 = .ok (.aload_n 1, 1) := by decide +kernel
theorem dX9_carryOut_166 : decode cX9_carryOut 166 = .ok (.iconst 1, 1) := by decide +kernel
theorem dX9_carryOut_167 : decode cX9_carryOut 167 = .ok (.iaload, 1) := by decide +kernel
theorem dX9_carryOut_168 : decode cX9_carryOut 168 = .ok (.aload_n 1, 1) := by decide +kernel
theorem dX9_carryOut_169 : decode cX9_carryOut 169 = .ok (.iconst 2, 1) := by decide +kernel
theorem dX9_carryOut_170 : decode cX9_carryOut 170 = .ok (.iaload, 1) := by decide +kernel
theorem dX9_carryOut_171 : decode cX9_carryOut 171 = .ok (.invokevirtual 95, 3) := by decide +kernel
theorem dX9_carryOut_174 : decode cX9_carryOut 174 = .ok (.ifCond .ne 26, 3) := by decide +kernel
theorem dX9_carryOut_177 : decode cX9_carryOut 177 = .ok (.aload_n 0, 1) := by decide +kernel
theorem dX9_carryOut_178 : decode cX9_carryOut 178 = .ok (.getfield 12, 3) := by decide +kernel
theorem dX9_carryOut_181 : decode cX9_carryOut 181 = .ok (.aload_n 1, 1) := by decide +kernel
theorem dX9_carryOut_182 : decode cX9_carryOut 182 = .ok (.iconst 0, 1) := by decide +kernel
theorem dX9_carryOut_183 : decode cX9_carryOut 183 = .ok (.iaload, 1) := by decide +kernel
theorem dX9_carryOut_184 : decode cX9_carryOut 184 = .ok (.aload_n 1, 1) := by decide +kernel
theorem dX9_carryOut_185 : decode cX9_carryOut 185 = .ok (.iconst 1, 1) := by decide +kernel
theorem dX9_carryOut_186 : decode cX9_carryOut 186 = .ok (.iaload, 1) := by decide +kernel
theorem dX9_carryOut_187 : decode cX9_carryOut 187 = .ok (.aload_n 1, 1) := by decide +kernel
theorem dX9_carryOut_188 : decode cX9_carryOut 188 = .ok (.iconst 2, 1) := by decide +kernel
theorem dX9_carryOut_189 : decode cX9_carryOut 189 = .ok (.iaload, 1) := by decide +kernel
theorem dX9_carryOut_190 : decode cX9_carryOut 190 = .ok (.invokevirtual 99, 3) := by decide +kernel
theorem dX9_carryOut_193 : decode cX9_carryOut 193 = .ok (.ifCond .lt 7, 3) := by decide +kernel
theorem dX9_carryOut_196 : decode cX9_carryOut 196 = .ok (.iconst 1, 1) := by decide +kernel
theorem dX9_carryOut_197 : decode cX9_carryOut 197 = .ok (.goto 4, 3) := by decide +kernel
theorem dX9_carryOut_200 : decode cX9_carryOut 200 = .ok (.iconst 0, 1) := by decide +kernel
theorem dX9_carryOut_201 : decode cX9_carryOut 201 = .ok (.ireturn, 1) := by decide +kernel
theorem dX9_carryOut_202 : decode cX9_carryOut 202 = .ok (.aload_n 0, 1) := by decide +kernel
theorem dX9_carryOut_203 : decode cX9_carryOut 203 = .ok (.invokevirtual 102, 3) := by decide +kernel
theorem dX9_carryOut_206 : decode cX9_carryOut 206 = .ok (.ireturn, 1) := by decide +kernel
theorem dX9_hangPanel_0 : decode cX9_hangPanel 0 = .ok (.aload_n 0, 1) := by decide +kernel
theorem dX9_hangPanel_1 : decode cX9_hangPanel 1 = .ok (.getfield 38, 3) := by decide +kernel
theorem dX9_hangPanel_4 : decode cX9_hangPanel 4 = .ok (.astore_n 1, 1) := by decide +kernel
theorem dX9_hangPanel_5 : decode cX9_hangPanel 5 = .ok (.aload_n 1, 1) := by decide +kernel
theorem dX9_hangPanel_6 : decode cX9_hangPanel 6 = .ok (.iconst 5, 1) := by decide +kernel
theorem dX9_hangPanel_7 : decode cX9_hangPanel 7 = .ok (.iaload, 1) := by decide +kernel
theorem dX9_hangPanel_8 : decode cX9_hangPanel 8 = .ok (.ifCond .lt 10, 3) := by decide +kernel
theorem dX9_hangPanel_11 : decode cX9_hangPanel 11 = .ok (.aload_n 1, 1) := by decide +kernel
theorem dX9_hangPanel_12 : decode cX9_hangPanel 12 = .ok (.iconst 5, 1) := by decide +kernel
theorem dX9_hangPanel_13 : decode cX9_hangPanel 13 = .ok (.iaload, 1) := by decide +kernel
theorem dX9_hangPanel_14 : decode cX9_hangPanel 14 = .ok (.iconst 3, 1) := by decide +kernel
theorem dX9_hangPanel_15 : decode cX9_hangPanel 15 = .ok (.if_icmp .le 5, 3) := by decide +kernel
theorem dX9_hangPanel_18 : decode cX9_hangPanel 18 = .ok (.iconst 0, 1) := by decide +kernel
theorem dX9_hangPanel_19 : decode cX9_hangPanel 19 = .ok (.ireturn, 1) := by decide +kernel
theorem dX9_hangPanel_20 : decode cX9_hangPanel 20 = .ok (.aload_n 1, 1) := by decide +kernel
theorem dX9_hangPanel_21 : decode cX9_hangPanel 21 = .ok (.iconst 5, 1) := by decide +kernel
theorem dX9_hangPanel_22 : decode cX9_hangPanel 22 = .ok (.iaload, 1) := by decide +kernel
theorem dX9_hangPanel_23 : decode cX9_hangPanel 23 = .ok (.iconst 3, 1) := by decide +kernel
theorem dX9_hangPanel_24 : decode cX9_hangPanel 24 = .ok (.if_icmp .ne 7, 3) := by decide +kernel
theorem dX9_hangPanel_27 : decode cX9_hangPanel 27 = .ok (.iconst (-1), 1) := by decide +kernel
theorem dX9_hangPanel_28 : decode cX9_hangPanel 28 = .ok (.goto 6, 3) := by decide +kernel
theorem dX9_hangPanel_31 : decode cX9_hangPanel 31 = .ok (.aload_n 1, 1) := by decide +kernel
theorem dX9_hangPanel_32 : decode cX9_hangPanel 32 = .ok (.iconst 5, 1) := by decide +kernel
theorem dX9_hangPanel_33 : decode cX9_hangPanel 33 = .ok (.iaload, 1) := by decide +kernel
theorem dX9_hangPanel_34 : decode cX9_hangPanel 34 = .ok (.istore_n 2, 1) := by decide +kernel
theorem dX9_hangPanel_35 : decode cX9_hangPanel 35 = .ok (.aload_n 0, 1) := by decide +kernel
theorem dX9_hangPanel_36 : decode cX9_hangPanel 36 = .ok (.getfield 12, 3) := by decide +kernel
theorem dX9_hangPanel_39 : decode cX9_hangPanel 39 = .ok (.aload_n 1, 1) := by decide +kernel
theorem dX9_hangPanel_40 : decode cX9_hangPanel 40 = .ok (.iconst 0, 1) := by decide +kernel
theorem dX9_hangPanel_41 : decode cX9_hangPanel 41 = .ok (.iaload, 1) := by decide +kernel
theorem dX9_hangPanel_42 : decode cX9_hangPanel 42 = .ok (.aload_n 1, 1) := by decide +kernel
theorem dX9_hangPanel_43 : decode cX9_hangPanel 43 = .ok (.iconst 1, 1) := by decide +kernel
theorem dX9_hangPanel_44 : decode cX9_hangPanel 44 = .ok (.iaload, 1) := by decide +kernel
theorem dX9_hangPanel_45 : decode cX9_hangPanel 45 = .ok (.aload_n 1, 1) := by decide +kernel
theorem dX9_hangPanel_46 : decode cX9_hangPanel 46 = .ok (.iconst 2, 1) := by decide +kernel
theorem dX9_hangPanel_47 : decode cX9_hangPanel 47 = .ok (.iaload, 1) := by decide +kernel
theorem dX9_hangPanel_48 : decode cX9_hangPanel 48 = .ok (.aload_n 1, 1) := by decide +kernel
theorem dX9_hangPanel_49 : decode cX9_hangPanel 49 = .ok (.iconst 3, 1) := by decide +kernel
theorem dX9_hangPanel_50 : decode cX9_hangPanel 50 = .ok (.iaload, 1) := by decide +kernel
theorem dX9_hangPanel_51 : decode cX9_hangPanel 51 = .ok (.aload_n 1, 1) := by decide +kernel
theorem dX9_hangPanel_52 : decode cX9_hangPanel 52 = .ok (.iconst 4, 1) := by decide +kernel
theorem dX9_hangPanel_53 : decode cX9_hangPanel 53 = .ok (.iaload, 1) := by decide +kernel
theorem dX9_hangPanel_54 : decode cX9_hangPanel 54 = .ok (.iload_n 2, 1) := by decide +kernel
theorem dX9_hangPanel_55 : decode cX9_hangPanel 55 = .ok (.invokevirtual 105, 3) := by decide +kernel
theorem dX9_hangPanel_58 : decode cX9_hangPanel 58 = .ok (.ifCond .eq 5, 3) := by decide +kernel
theorem dX9_hangPanel_61 : decode cX9_hangPanel 61 = .ok (.iconst 0, 1) := by decide +kernel
theorem dX9_hangPanel_62 : decode cX9_hangPanel 62 = .ok (.ireturn, 1) := by decide +kernel
theorem dX9_hangPanel_63 : decode cX9_hangPanel 63 = .ok (.aload_n 0, 1) := by decide +kernel
theorem dX9_hangPanel_64 : decode cX9_hangPanel 64 = .ok (.getfield 12, 3) := by decide +kernel
theorem dX9_hangPanel_67 : decode cX9_hangPanel 67 = .ok (.aload_n 1, 1) := by decide +kernel
theorem dX9_hangPanel_68 : decode cX9_hangPanel 68 = .ok (.iconst 0, 1) := by decide +kernel
theorem dX9_hangPanel_69 : decode cX9_hangPanel 69 = .ok (.iaload, 1) := by decide +kernel
theorem dX9_hangPanel_70 : decode cX9_hangPanel 70 = .ok (.aload_n 1, 1) := by decide +kernel
theorem dX9_hangPanel_71 : decode cX9_hangPanel 71 = .ok (.iconst 1, 1) := by decide +kernel
theorem dX9_hangPanel_72 : decode cX9_hangPanel 72 = .ok (.iaload, 1) := by decide +kernel
theorem dX9_hangPanel_73 : decode cX9_hangPanel 73 = .ok (.aload_n 1, 1) := by decide +kernel
theorem dX9_hangPanel_74 : decode cX9_hangPanel 74 = .ok (.iconst 2, 1) := by decide +kernel
theorem dX9_hangPanel_75 : decode cX9_hangPanel 75 = .ok (.iaload, 1) := by decide +kernel
theorem dX9_hangPanel_76 : decode cX9_hangPanel 76 = .ok (.aload_n 1, 1) := by decide +kernel
theorem dX9_hangPanel_77 : decode cX9_hangPanel 77 = .ok (.iconst 3, 1) := by decide +kernel
theorem dX9_hangPanel_78 : decode cX9_hangPanel 78 = .ok (.iaload, 1) := by decide +kernel
theorem dX9_hangPanel_79 : decode cX9_hangPanel 79 = .ok (.aload_n 1, 1) := by decide +kernel
theorem dX9_hangPanel_80 : decode cX9_hangPanel 80 = .ok (.iconst 4, 1) := by decide +kernel
theorem dX9_hangPanel_81 : decode cX9_hangPanel 81 = .ok (.iaload, 1) := by decide +kernel
theorem dX9_hangPanel_82 : decode cX9_hangPanel 82 = .ok (.iload_n 2, 1) := by decide +kernel
theorem dX9_hangPanel_83 : decode cX9_hangPanel 83 = .ok (.invokevirtual 109, 3) := by decide +kernel
theorem dX9_hangPanel_86 : decode cX9_hangPanel 86 = .ok (.pop, 1) := by decide +kernel
theorem dX9_hangPanel_87 : decode cX9_hangPanel 87 = .ok (.iconst 1, 1) := by decide +kernel
theorem dX9_hangPanel_88 : decode cX9_hangPanel 88 = .ok (.ireturn, 1) := by decide +kernel
theorem dX9_glue_0 : decode cX9_glue 0 = .ok (.aload_n 0, 1) := by decide +kernel
theorem dX9_glue_1 : decode cX9_glue 1 = .ok (.getfield 12, 3) := by decide +kernel
theorem dX9_glue_4 : decode cX9_glue 4 = .ok (.aload_n 0, 1) := by decide +kernel
theorem dX9_glue_5 : decode cX9_glue 5 = .ok (.getfield 38, 3) := by decide +kernel
theorem dX9_glue_8 : decode cX9_glue 8 = .ok (.iconst 1, 1) := by decide +kernel
theorem dX9_glue_9 : decode cX9_glue 9 = .ok (.iaload, 1) := by decide +kernel
theorem dX9_glue_10 : decode cX9_glue 10 = .ok (.invokevirtual 112, 3) := by decide +kernel
theorem dX9_glue_13 : decode cX9_glue 13 = .ok (.ifCond .eq 25, 3) := by decide +kernel
theorem dX9_glue_16 : decode cX9_glue 16 = .ok (.aload_n 0, 1) := by decide +kernel
theorem dX9_glue_17 : decode cX9_glue 17 = .ok (.getfield 12, 3) := by decide +kernel
theorem dX9_glue_20 : decode cX9_glue 20 = .ok (.aload_n 0, 1) := by decide +kernel
theorem dX9_glue_21 : decode cX9_glue 21 = .ok (.getfield 38, 3) := by decide +kernel
theorem dX9_glue_24 : decode cX9_glue 24 = .ok (.iconst 0, 1) := by decide +kernel
theorem dX9_glue_25 : decode cX9_glue 25 = .ok (.iaload, 1) := by decide +kernel
theorem dX9_glue_26 : decode cX9_glue 26 = .ok (.aload_n 0, 1) := by decide +kernel
theorem dX9_glue_27 : decode cX9_glue 27 = .ok (.getfield 38, 3) := by decide +kernel
theorem dX9_glue_30 : decode cX9_glue 30 = .ok (.iconst 1, 1) := by decide +kernel
theorem dX9_glue_31 : decode cX9_glue 31 = .ok (.iaload, 1) := by decide +kernel
theorem dX9_glue_32 : decode cX9_glue 32 = .ok (.invokevirtual 115, 3) := by decide +kernel
theorem dX9_glue_35 : decode cX9_glue 35 = .ok (.ifCond .eq 5, 3) := by decide +kernel
theorem dX9_glue_38 : decode cX9_glue 38 = .ok (.iconst 0, 1) := by decide +kernel
theorem dX9_glue_39 : decode cX9_glue 39 = .ok (.ireturn, 1) := by decide +kernel
theorem dX9_glue_40 : decode cX9_glue 40 = .ok (.aload_n 0, 1) := by decide +kernel
theorem dX9_glue_41 : decode cX9_glue 41 = .ok (.getfield 12, 3) := by decide +kernel
theorem dX9_glue_44 : decode cX9_glue 44 = .ok (.aload_n 0, 1) := by decide +kernel
theorem dX9_glue_45 : decode cX9_glue 45 = .ok (.getfield 38, 3) := by decide +kernel
theorem dX9_glue_48 : decode cX9_glue 48 = .ok (.iconst 0, 1) := by decide +kernel
theorem dX9_glue_49 : decode cX9_glue 49 = .ok (.iaload, 1) := by decide +kernel
theorem dX9_glue_50 : decode cX9_glue 50 = .ok (.aload_n 0, 1) := by decide +kernel
theorem dX9_glue_51 : decode cX9_glue 51 = .ok (.getfield 38, 3) := by decide +kernel
theorem dX9_glue_54 : decode cX9_glue 54 = .ok (.iconst 1, 1) := by decide +kernel
theorem dX9_glue_55 : decode cX9_glue 55 = .ok (.iaload, 1) := by decide +kernel
theorem dX9_glue_56 : decode cX9_glue 56 = .ok (.invokevirtual 118, 3) := by decide +kernel
theorem dX9_glue_59 : decode cX9_glue 59 = .ok (.pop, 1) := by decide +kernel
theorem dX9_glue_60 : decode cX9_glue 60 = .ok (.iconst 1, 1) := by decide +kernel
theorem dX9_glue_61 : decode cX9_glue 61 = .ok (.ireturn, 1) := by decide +kernel
theorem dX9_printImage_0 : decode cX9_printImage 0 = .ok (.aload_n 0, 1) := by decide +kernel
theorem dX9_printImage_1 : decode cX9_printImage 1 = .ok (.getfield 38, 3) := by decide +kernel
theorem dX9_printImage_4 : decode cX9_printImage 4 = .ok (.astore_n 1, 1) := by decide +kernel
theorem dX9_printImage_5 : decode cX9_printImage 5 = .ok (.aload_n 0, 1) := by decide +kernel
theorem dX9_printImage_6 : decode cX9_printImage 6 = .ok (.getfield 12, 3) := by decide +kernel
theorem dX9_printImage_9 : decode cX9_printImage 9 = .ok (.aload_n 1, 1) := by decide +kernel
theorem dX9_printImage_10 : decode cX9_printImage 10 = .ok (.iconst 0, 1) := by decide +kernel
theorem dX9_printImage_11 : decode cX9_printImage 11 = .ok (.iaload, 1) := by decide +kernel
theorem dX9_printImage_12 : decode cX9_printImage 12 = .ok (.aload_n 1, 1) := by decide +kernel
theorem dX9_printImage_13 : decode cX9_printImage 13 = .ok (.iconst 1, 1) := by decide +kernel
theorem dX9_printImage_14 : decode cX9_printImage 14 = .ok (.iaload, 1) := by decide +kernel
theorem dX9_printImage_15 : decode cX9_printImage 15 = .ok (.aload_n 1, 1) := by decide +kernel
theorem dX9_printImage_16 : decode cX9_printImage 16 = .ok (.iconst 2, 1) := by decide +kernel
theorem dX9_printImage_17 : decode cX9_printImage 17 = .ok (.iaload, 1) := by decide +kernel
theorem dX9_printImage_18 : decode cX9_printImage 18 = .ok (.aload_n 1, 1) := by decide +kernel
theorem dX9_printImage_19 : decode cX9_printImage 19 = .ok (.iconst 3, 1) := by decide +kernel
theorem dX9_printImage_20 : decode cX9_printImage 20 = .ok (.iaload, 1) := by decide +kernel
theorem dX9_printImage_21 : decode cX9_printImage 21 = .ok (.aload_n 1, 1) := by decide +kernel
theorem dX9_printImage_22 : decode cX9_printImage 22 = .ok (.iconst 4, 1) := by decide +kernel
theorem dX9_printImage_23 : decode cX9_printImage 23 = .ok (.iaload, 1) := by decide +kernel
theorem dX9_printImage_24 : decode cX9_printImage 24 = .ok (.invokevirtual 121, 3) := by decide +kernel
theorem dX9_printImage_27 : decode cX9_printImage 27 = .ok (.ifCond .eq 5, 3) := by decide +kernel
theorem dX9_printImage_30 : decode cX9_printImage 30 = .ok (.iconst 0, 1) := by decide +kernel
theorem dX9_printImage_31 : decode cX9_printImage 31 = .ok (.ireturn, 1) := by decide +kernel
theorem dX9_printImage_32 : decode cX9_printImage 32 = .ok (.aload_n 0, 1) := by decide +kernel
theorem dX9_printImage_33 : decode cX9_printImage 33 = .ok (.getfield 12, 3) := by decide +kernel
theorem dX9_printImage_36 : decode cX9_printImage 36 = .ok (.aload_n 1, 1) := by decide +kernel
theorem dX9_printImage_37 : decode cX9_printImage 37 = .ok (.iconst 0, 1) := by decide +kernel
theorem dX9_printImage_38 : decode cX9_printImage 38 = .ok (.iaload, 1) := by decide +kernel
theorem dX9_printImage_39 : decode cX9_printImage 39 = .ok (.aload_n 1, 1) := by decide +kernel
theorem dX9_printImage_40 : decode cX9_printImage 40 = .ok (.iconst 1, 1) := by decide +kernel
theorem dX9_printImage_41 : decode cX9_printImage 41 = .ok (.iaload, 1) := by decide +kernel
theorem dX9_printImage_42 : decode cX9_printImage 42 = .ok (.aload_n 1, 1) := by decide +kernel
theorem dX9_printImage_43 : decode cX9_printImage 43 = .ok (.iconst 2, 1) := by decide +kernel
theorem dX9_printImage_44 : decode cX9_printImage 44 = .ok (.iaload, 1) := by decide +kernel
theorem dX9_printImage_45 : decode cX9_printImage 45 = .ok (.aload_n 1, 1) := by decide +kernel
theorem dX9_printImage_46 : decode cX9_printImage 46 = .ok (.iconst 3, 1) := by decide +kernel
theorem dX9_printImage_47 : decode cX9_printImage 47 = .ok (.iaload, 1) := by decide +kernel
theorem dX9_printImage_48 : decode cX9_printImage 48 = .ok (.aload_n 1, 1) := by decide +kernel
theorem dX9_printImage_49 : decode cX9_printImage 49 = .ok (.iconst 4, 1) := by decide +kernel
theorem dX9_printImage_50 : decode cX9_printImage 50 = .ok (.iaload, 1) := by decide +kernel
theorem dX9_printImage_51 : decode cX9_printImage 51 = .ok (.invokevirtual 125, 3) := by decide +kernel
theorem dX9_printImage_54 : decode cX9_printImage 54 = .ok (.pop, 1) := by decide +kernel
theorem dX9_printImage_55 : decode cX9_printImage 55 = .ok (.iconst 1, 1) := by decide +kernel
theorem dX9_printImage_56 : decode cX9_printImage 56 = .ok (.ireturn, 1) := by decide +kernel
theorem dX10_init_0 : decode cX10_init 0 = .ok (.aload_n 0, 1) := by decide +kernel
theorem dX10_init_1 : decode cX10_init 1 = .ok (.invokespecial 3, 3) := by decide +kernel
theorem dX10_init_4 : decode cX10_init 4 = .ok (.aload_n 0, 1) := by decide +kernel
theorem dX10_init_5 : decode cX10_init 5 = .ok (.iconst 0, 1) := by decide +kernel
theorem dX10_init_6 : decode cX10_init 6 = .ok (.putfield 9, 3) := by decide +kernel
theorem dX10_init_9 : decode cX10_init 9 = .ok (.aload_n 0, 1) := by decide +kernel
theorem dX10_init_10 : decode cX10_init 10 = .ok (.new 15, 3) := by decide +kernel
theorem dX10_init_13 : decode cX10_init 13 = .ok (.dup, 1) := by decide +kernel
theorem dX10_init_14 : decode cX10_init 14 = .ok (.invokespecial 17, 3) := by decide +kernel
theorem dX10_init_17 : decode cX10_init 17 = .ok (.putfield 18, 3) := by decide +kernel
theorem dX10_init_20 : decode cX10_init 20 = .ok (.aload_n 0, 1) := by decide +kernel
theorem dX10_init_21 : decode cX10_init 21 = .ok (.iconst 0, 1) := by decide +kernel
theorem dX10_init_22 : decode cX10_init 22 = .ok (.putfield 22, 3) := by decide +kernel
theorem dX10_init_25 : decode cX10_init 25 = .ok (.aload_n 0, 1) := by decide +kernel
theorem dX10_init_26 : decode cX10_init 26 = .ok (.sipush 360, 3) := by decide +kernel
theorem dX10_init_29 : decode cX10_init 29 = .ok (.newarray .int, 2) := by decide +kernel
theorem dX10_init_31 : decode cX10_init 31 = .ok (.putfield 25, 3) := by decide +kernel
theorem dX10_init_34 : decode cX10_init 34 = .ok (.aload_n 0, 1) := by decide +kernel
theorem dX10_init_35 : decode cX10_init 35 = .ok (.sipush 360, 3) := by decide +kernel
theorem dX10_init_38 : decode cX10_init 38 = .ok (.newarray .int, 2) := by decide +kernel
theorem dX10_init_40 : decode cX10_init 40 = .ok (.putfield 29, 3) := by decide +kernel
theorem dX10_init_43 : decode cX10_init 43 = .ok (.aload_n 0, 1) := by decide +kernel
theorem dX10_init_44 : decode cX10_init 44 = .ok (.sipush 360, 3) := by decide +kernel
theorem dX10_init_47 : decode cX10_init 47 = .ok (.newarray .int, 2) := by decide +kernel
theorem dX10_init_49 : decode cX10_init 49 = .ok (.putfield 32, 3) := by decide +kernel
theorem dX10_init_52 : decode cX10_init 52 = .ok (.aload_n 0, 1) := by decide +kernel
theorem dX10_init_53 : decode cX10_init 53 = .ok (.sipush 360, 3) := by decide +kernel
theorem dX10_init_56 : decode cX10_init 56 = .ok (.newarray .int, 2) := by decide +kernel
theorem dX10_init_58 : decode cX10_init 58 = .ok (.putfield 35, 3) := by decide +kernel
theorem dX10_init_61 : decode cX10_init 61 = .ok (.aload_n 0, 1) := by decide +kernel
theorem dX10_init_62 : decode cX10_init 62 = .ok (.sipush 360, 3) := by decide +kernel
theorem dX10_init_65 : decode cX10_init 65 = .ok (.newarray .int, 2) := by decide +kernel
theorem dX10_init_67 : decode cX10_init 67 = .ok (.putfield 38, 3) := by decide +kernel
theorem dX10_init_70 : decode cX10_init 70 = .ok (.aload_n 0, 1) := by decide +kernel
theorem dX10_init_71 : decode cX10_init 71 = .ok (.new 41, 3) := by decide +kernel
theorem dX10_init_74 : decode cX10_init 74 = .ok (.dup, 1) := by decide +kernel
theorem dX10_init_75 : decode cX10_init 75 = .ok (.invokespecial 43, 3) := by decide +kernel
theorem dX10_init_78 : decode cX10_init 78 = .ok (.putfield 44, 3) := by decide +kernel
theorem dX10_init_81 : decode cX10_init 81 = .ok (.return_, 1) := by decide +kernel
theorem dX10_find_0 : decode cX10_find 0 = .ok (.aload_n 0, 1) := by decide +kernel
theorem dX10_find_1 : decode cX10_find 1 = .ok (.iconst 0, 1) := by decide +kernel
theorem dX10_find_2 : decode cX10_find 2 = .ok (.putfield 9, 3) := by decide +kernel
theorem dX10_find_5 : decode cX10_find 5 = .ok (.aload_n 0, 1) := by decide +kernel
theorem dX10_find_6 : decode cX10_find 6 = .ok (.iload_n 1, 1) := by decide +kernel
theorem dX10_find_7 : decode cX10_find 7 = .ok (.putfield 22, 3) := by decide +kernel
theorem dX10_find_10 : decode cX10_find 10 = .ok (.iconst 0, 1) := by decide +kernel
theorem dX10_find_11 : decode cX10_find 11 = .ok (.istore_n 2, 1) := by decide +kernel
theorem dX10_find_12 : decode cX10_find 12 = .ok (.iload_n 2, 1) := by decide +kernel
theorem dX10_find_13 : decode cX10_find 13 = .ok (.aload_n 0, 1) := by decide +kernel
theorem dX10_find_14 : decode cX10_find 14 = .ok (.getfield 18, 3) := by decide +kernel
theorem dX10_find_17 : decode cX10_find 17 = .ok (.getfield 48, 3) := by decide +kernel
theorem dX10_find_20 : decode cX10_find 20 = .ok (.if_icmp .ge 53, 3) := by decide +kernel
theorem dX10_find_23 : decode cX10_find 23 = .ok (.iconst 0, 1) := by decide +kernel
theorem dX10_find_24 : decode cX10_find 24 = .ok (.istore_n 3, 1) := by decide +kernel
theorem dX10_find_25 : decode cX10_find 25 = .ok (.iload_n 3, 1) := by decide +kernel
theorem dX10_find_26 : decode cX10_find 26 = .ok (.iconst 4, 1) := by decide +kernel
theorem dX10_find_27 : decode cX10_find 27 = .ok (.if_icmp .ge 40, 3) := by decide +kernel
theorem dX10_find_30 : decode cX10_find 30 = .ok (.iload_n 2, 1) := by decide +kernel
theorem dX10_find_31 : decode cX10_find 31 = .ok (.iconst 1, 1) := by decide +kernel
theorem dX10_find_32 : decode cX10_find 32 = .ok (.iadd, 1) := by decide +kernel
theorem dX10_find_33 : decode cX10_find 33 = .ok (.istore 4, 2) := by decide +kernel
theorem dX10_find_35 : decode cX10_find 35 = .ok (.iload 4, 2) := by decide +kernel
theorem dX10_find_37 : decode cX10_find 37 = .ok (.aload_n 0, 1) := by decide +kernel
theorem dX10_find_38 : decode cX10_find 38 = .ok (.getfield 18, 3) := by decide +kernel
theorem dX10_find_41 : decode cX10_find 41 = .ok (.getfield 48, 3) := by decide +kernel
theorem dX10_find_44 : decode cX10_find 44 = .ok (.if_icmp .ge 17, 3) := by decide +kernel
theorem dX10_find_47 : decode cX10_find 47 = .ok (.aload_n 0, 1) := by decide +kernel
theorem dX10_find_48 : decode cX10_find 48 = .ok (.iload_n 2, 1) := by decide +kernel
theorem dX10_find_49 : decode cX10_find 49 = .ok (.iload_n 3, 1) := by decide +kernel
theorem dX10_find_50 : decode cX10_find 50 = .ok (.iload 4, 2) := by decide +kernel
theorem dX10_find_52 : decode cX10_find 52 = .ok (.invokevirtual 51, 3) := by decide +kernel
theorem dX10_find_55 : decode cX10_find 55 = .ok (.iinc 4 1, 3) := by decide +kernel
theorem dX10_find_58 : decode cX10_find 58 = .ok (.goto (-23), 3) := by decide +kernel
theorem dX10_find_61 : decode cX10_find 61 = .ok (.iinc 3 1, 3) := by decide +kernel
theorem dX10_find_64 : decode cX10_find 64 = .ok (.goto (-39), 3) := by decide +kernel
theorem dX10_find_67 : decode cX10_find 67 = .ok (.iinc 2 1, 3) := by decide +kernel
theorem dX10_find_70 : decode cX10_find 70 = .ok (.goto (-58), 3) := by decide +kernel
theorem dX10_find_73 : decode cX10_find 73 = .ok (.return_, 1) := by decide +kernel
theorem dX10_joinSide_0 : decode cX10_joinSide 0 = .ok (.iload_n 2, 1) := by decide +kernel
theorem dX10_joinSide_1 : decode cX10_joinSide 1 = .ok (.ifCond .lt 8, 3) := by decide +kernel
theorem dX10_joinSide_4 : decode cX10_joinSide 4 = .ok (.iload_n 2, 1) := by decide +kernel
theorem dX10_joinSide_5 : decode cX10_joinSide 5 = .ok (.iconst 3, 1) := by decide +kernel
theorem dX10_joinSide_6 : decode cX10_joinSide 6 = .ok (.if_icmp .le 4, 3) := by decide +kernel
theorem dX10_joinSide_9 : decode cX10_joinSide 9 = .ok (.return_, 1) := by decide +kernel
theorem dX10_joinSide_10 : decode cX10_joinSide 10 = .ok (.aload_n 0, 1) := by decide +kernel
theorem dX10_joinSide_11 : decode cX10_joinSide 11 = .ok (.getfield 18, 3) := by decide +kernel
theorem dX10_joinSide_14 : decode cX10_joinSide 14 = .ok (.iload_n 1, 1) := by decide +kernel
theorem dX10_joinSide_15 : decode cX10_joinSide 15 = .ok (.invokevirtual 55, 3) := by decide +kernel
theorem dX10_joinSide_18 : decode cX10_joinSide 18 = .ok (.astore 4, 2) := by decide +kernel
theorem dX10_joinSide_20 : decode cX10_joinSide 20 = .ok (.aload_n 0, 1) := by decide +kernel
theorem dX10_joinSide_21 : decode cX10_joinSide 21 = .ok (.getfield 18, 3) := by decide +kernel
theorem dX10_joinSide_24 : decode cX10_joinSide 24 = .ok (.iload_n 3, 1) := by decide +kernel
theorem dX10_joinSide_25 : decode cX10_joinSide 25 = .ok (.invokevirtual 55, 3) := by decide +kernel
theorem dX10_joinSide_28 : decode cX10_joinSide 28 = .ok (.astore 5, 2) := by decide +kernel
theorem dX10_joinSide_30 : decode cX10_joinSide 30 = .ok (.iconst 0, 1) := by decide +kernel
theorem dX10_joinSide_31 : decode cX10_joinSide 31 = .ok (.istore 6, 2) := by decide +kernel
theorem dX10_joinSide_33 : decode cX10_joinSide 33 = .ok (.iload 6, 2) := by decide +kernel
theorem dX10_joinSide_35 : decode cX10_joinSide 35 = .ok (.iconst 4, 1) := by decide +kernel
theorem dX10_joinSide_36 : decode cX10_joinSide 36 = .ok (.if_icmp .ge 208, 3) := by decide +kernel
theorem dX10_joinSide_39 : decode cX10_joinSide 39 = .ok (.aload 4, 2) := by decide +kernel
theorem dX10_joinSide_41 : decode cX10_joinSide 41 = .ok (.getfield 59, 3) := by decide +kernel
theorem dX10_joinSide_44 : decode cX10_joinSide 44 = .ok (.iload_n 2, 1) := by decide +kernel
theorem dX10_joinSide_45 : decode cX10_joinSide 45 = .ok (.iaload, 1) := by decide +kernel
theorem dX10_joinSide_46 : decode cX10_joinSide 46 = .ok (.aload 5, 2) := by decide +kernel
theorem dX10_joinSide_48 : decode cX10_joinSide 48 = .ok (.getfield 59, 3) := by decide +kernel
theorem dX10_joinSide_51 : decode cX10_joinSide 51 = .ok (.iload 6, 2) := by decide +kernel
theorem dX10_joinSide_53 : decode cX10_joinSide 53 = .ok (.iaload, 1) := by decide +kernel
theorem dX10_joinSide_54 : decode cX10_joinSide 54 = .ok (.if_icmp .ne 184, 3) := by decide +kernel
theorem dX10_joinSide_57 : decode cX10_joinSide 57 = .ok (.aload 4, 2) := by decide +kernel
theorem dX10_joinSide_59 : decode cX10_joinSide 59 = .ok (.getfield 64, 3) := by decide +kernel
theorem dX10_joinSide_62 : decode cX10_joinSide 62 = .ok (.iload_n 2, 1) := by decide +kernel
theorem dX10_joinSide_63 : decode cX10_joinSide 63 = .ok (.iaload, 1) := by decide +kernel
theorem dX10_joinSide_64 : decode cX10_joinSide 64 = .ok (.aload 5, 2) := by decide +kernel
theorem dX10_joinSide_66 : decode cX10_joinSide 66 = .ok (.getfield 64, 3) := by decide +kernel
theorem dX10_joinSide_69 : decode cX10_joinSide 69 = .ok (.iload 6, 2) := by decide +kernel
theorem dX10_joinSide_71 : decode cX10_joinSide 71 = .ok (.iaload, 1) := by decide +kernel
theorem dX10_joinSide_72 : decode cX10_joinSide 72 = .ok (.isub, 1) := by decide +kernel
theorem dX10_joinSide_73 : decode cX10_joinSide 73 = .ok (.invokestatic 67, 3) := by decide +kernel
theorem dX10_joinSide_76 : decode cX10_joinSide 76 = .ok (.aload 4, 2) := by decide +kernel
theorem dX10_joinSide_78 : decode cX10_joinSide 78 = .ok (.getfield 73, 3) := by decide +kernel
theorem dX10_joinSide_81 : decode cX10_joinSide 81 = .ok (.iload_n 2, 1) := by decide +kernel
theorem dX10_joinSide_82 : decode cX10_joinSide 82 = .ok (.iaload, 1) := by decide +kernel
theorem dX10_joinSide_83 : decode cX10_joinSide 83 = .ok (.aload 5, 2) := by decide +kernel
theorem dX10_joinSide_85 : decode cX10_joinSide 85 = .ok (.getfield 73, 3) := by decide +kernel
theorem dX10_joinSide_88 : decode cX10_joinSide 88 = .ok (.iload 6, 2) := by decide +kernel
theorem dX10_joinSide_90 : decode cX10_joinSide 90 = .ok (.iaload, 1) := by decide +kernel
theorem dX10_joinSide_91 : decode cX10_joinSide 91 = .ok (.isub, 1) := by decide +kernel
theorem dX10_joinSide_92 : decode cX10_joinSide 92 = .ok (.invokestatic 67, 3) := by decide +kernel
theorem dX10_joinSide_95 : decode cX10_joinSide 95 = .ok (.invokestatic 76, 3) := by decide +kernel
theorem dX10_joinSide_98 : decode cX10_joinSide 98 = .ok (.istore 7, 2) := by decide +kernel
theorem dX10_joinSide_100 : decode cX10_joinSide 100 = .ok (.aload 4, 2) := by decide +kernel
theorem dX10_joinSide_102 : decode cX10_joinSide 102 = .ok (.getfield 80, 3) := by decide +kernel
theorem dX10_joinSide_105 : decode cX10_joinSide 105 = .ok (.iload_n 2, 1) := by decide +kernel
theorem dX10_joinSide_106 : decode cX10_joinSide 106 = .ok (.iaload, 1) := by decide +kernel
theorem dX10_joinSide_107 : decode cX10_joinSide 107 = .ok (.aload 5, 2) := by decide +kernel
theorem dX10_joinSide_109 : decode cX10_joinSide 109 = .ok (.getfield 80, 3) := by decide +kernel
theorem dX10_joinSide_112 : decode cX10_joinSide 112 = .ok (.iload 6, 2) := by decide +kernel
theorem dX10_joinSide_114 : decode cX10_joinSide 114 = .ok (.iaload, 1) := by decide +kernel
theorem dX10_joinSide_115 : decode cX10_joinSide 115 = .ok (.invokestatic 76, 3) := by decide +kernel
theorem dX10_joinSide_118 : decode cX10_joinSide 118 = .ok (.istore 8, 2) := by decide +kernel
theorem dX10_joinSide_120 : decode cX10_joinSide 120 = .ok (.aload 4, 2) := by decide +kernel
theorem dX10_joinSide_122 : decode cX10_joinSide 122 = .ok (.getfield 83, 3) := by decide +kernel
theorem dX10_joinSide_125 : decode cX10_joinSide 125 = .ok (.iload_n 2, 1) := by decide +kernel
theorem dX10_joinSide_126 : decode cX10_joinSide 126 = .ok (.iaload, 1) := by decide +kernel
theorem dX10_joinSide_127 : decode cX10_joinSide 127 = .ok (.aload 5, 2) := by decide +kernel
theorem dX10_joinSide_129 : decode cX10_joinSide 129 = .ok (.getfield 83, 3) := by decide +kernel
theorem dX10_joinSide_132 : decode cX10_joinSide 132 = .ok (.iload 6, 2) := by decide +kernel
theorem dX10_joinSide_134 : decode cX10_joinSide 134 = .ok (.iaload, 1) := by decide +kernel
theorem dX10_joinSide_135 : decode cX10_joinSide 135 = .ok (.invokestatic 86, 3) := by decide +kernel
theorem dX10_joinSide_138 : decode cX10_joinSide 138 = .ok (.istore 9, 2) := by decide +kernel
theorem dX10_joinSide_140 : decode cX10_joinSide 140 = .ok (.iload 7, 2) := by decide +kernel
theorem dX10_joinSide_142 : decode cX10_joinSide 142 = .ok (.aload_n 0, 1) := by decide +kernel
theorem dX10_joinSide_143 : decode cX10_joinSide 143 = .ok (.getfield 22, 3) := by decide +kernel
theorem dX10_joinSide_146 : decode cX10_joinSide 146 = .ok (.if_icmp .gt 92, 3) := by decide +kernel
theorem dX10_joinSide_149 : decode cX10_joinSide 149 = .ok (.iload 8, 2) := by decide +kernel
theorem dX10_joinSide_151 : decode cX10_joinSide 151 = .ok (.iload 9, 2) := by decide +kernel
theorem dX10_joinSide_153 : decode cX10_joinSide 153 = .ok (.if_icmp .ge 85, 3) := by decide +kernel
theorem dX10_joinSide_156 : decode cX10_joinSide 156 = .ok (.aload_n 0, 1) := by decide +kernel
theorem dX10_joinSide_157 : decode cX10_joinSide 157 = .ok (.getfield 9, 3) := by decide +kernel
theorem dX10_joinSide_160 : decode cX10_joinSide 160 = .ok (.sipush 360, 3) := by decide +kernel
theorem dX10_joinSide_163 : decode cX10_joinSide 163 = .ok (.if_icmp .ge 75, 3) := by decide +kernel
theorem dX10_joinSide_166 : decode cX10_joinSide 166 = .ok (.aload_n 0, 1) := by decide +kernel
theorem dX10_joinSide_167 : decode cX10_joinSide 167 = .ok (.getfield 25, 3) := by decide +kernel
theorem dX10_joinSide_170 : decode cX10_joinSide 170 = .ok (.aload_n 0, 1) := by decide +kernel
theorem dX10_joinSide_171 : decode cX10_joinSide 171 = .ok (.getfield 9, 3) := by decide +kernel
theorem dX10_joinSide_174 : decode cX10_joinSide 174 = .ok (.iconst 4, 1) := by decide +kernel
theorem dX10_joinSide_175 : decode cX10_joinSide 175 = .ok (.iload_n 1, 1) := by decide +kernel
theorem dX10_joinSide_176 : decode cX10_joinSide 176 = .ok (.imul, 1) := by decide +kernel
theorem dX10_joinSide_177 : decode cX10_joinSide 177 = .ok (.iload_n 2, 1) := by decide +kernel
theorem dX10_joinSide_178 : decode cX10_joinSide 178 = .ok (.iadd, 1) := by decide +kernel
theorem dX10_joinSide_179 : decode cX10_joinSide 179 = .ok (.iastore, 1) := by decide +kernel
theorem dX10_joinSide_180 : decode cX10_joinSide 180 = .ok (.aload_n 0, 1) := by decide +kernel
theorem dX10_joinSide_181 : decode cX10_joinSide 181 = .ok (.getfield 29, 3) := by decide +kernel
theorem dX10_joinSide_184 : decode cX10_joinSide 184 = .ok (.aload_n 0, 1) := by decide +kernel
theorem dX10_joinSide_185 : decode cX10_joinSide 185 = .ok (.getfield 9, 3) := by decide +kernel
theorem dX10_joinSide_188 : decode cX10_joinSide 188 = .ok (.iconst 4, 1) := by decide +kernel
theorem dX10_joinSide_189 : decode cX10_joinSide 189 = .ok (.iload_n 3, 1) := by decide +kernel
theorem dX10_joinSide_190 : decode cX10_joinSide 190 = .ok (.imul, 1) := by decide +kernel
theorem dX10_joinSide_191 : decode cX10_joinSide 191 = .ok (.iload 6, 2) := by decide +kernel
theorem dX10_joinSide_193 : decode cX10_joinSide 193 = .ok (.iadd, 1) := by decide +kernel
theorem dX10_joinSide_194 : decode cX10_joinSide 194 = .ok (.iastore, 1) := by decide +kernel
theorem dX10_joinSide_195 : decode cX10_joinSide 195 = .ok (.aload_n 0, 1) := by decide +kernel
theorem dX10_joinSide_196 : decode cX10_joinSide 196 = .ok (.getfield 32, 3) := by decide +kernel
theorem dX10_joinSide_199 : decode cX10_joinSide 199 = .ok (.aload_n 0, 1) := by decide +kernel
theorem dX10_joinSide_200 : decode cX10_joinSide 200 = .ok (.getfield 9, 3) := by decide +kernel
theorem dX10_joinSide_203 : decode cX10_joinSide 203 = .ok (.iload 8, 2) := by decide +kernel
theorem dX10_joinSide_205 : decode cX10_joinSide 205 = .ok (.iastore, 1) := by decide +kernel
theorem dX10_joinSide_206 : decode cX10_joinSide 206 = .ok (.aload_n 0, 1) := by decide +kernel
theorem dX10_joinSide_207 : decode cX10_joinSide 207 = .ok (.getfield 35, 3) := by decide +kernel
theorem dX10_joinSide_210 : decode cX10_joinSide 210 = .ok (.aload_n 0, 1) := by decide +kernel
theorem dX10_joinSide_211 : decode cX10_joinSide 211 = .ok (.getfield 9, 3) := by decide +kernel
theorem dX10_joinSide_214 : decode cX10_joinSide 214 = .ok (.iload 9, 2) := by decide +kernel
theorem dX10_joinSide_216 : decode cX10_joinSide 216 = .ok (.iastore, 1) := by decide +kernel
theorem dX10_joinSide_217 : decode cX10_joinSide 217 = .ok (.aload_n 0, 1) := by decide +kernel
theorem dX10_joinSide_218 : decode cX10_joinSide 218 = .ok (.getfield 38, 3) := by decide +kernel
theorem dX10_joinSide_221 : decode cX10_joinSide 221 = .ok (.aload_n 0, 1) := by decide +kernel
theorem dX10_joinSide_222 : decode cX10_joinSide 222 = .ok (.getfield 9, 3) := by decide +kernel
theorem dX10_joinSide_225 : decode cX10_joinSide 225 = .ok (.iload 7, 2) := by decide +kernel
theorem dX10_joinSide_227 : decode cX10_joinSide 227 = .ok (.iastore, 1) := by decide +kernel
theorem dX10_joinSide_228 : decode cX10_joinSide 228 = .ok (.aload_n 0, 1) := by decide +kernel
theorem dX10_joinSide_229 : decode cX10_joinSide 229 = .ok (.dup, 1) := by decide +kernel
theorem dX10_joinSide_230 : decode cX10_joinSide 230 = .ok (.getfield 9, 3) := by decide +kernel
theorem dX10_joinSide_233 : decode cX10_joinSide 233 = .ok (.iconst 1, 1) := by decide +kernel
theorem dX10_joinSide_234 : decode cX10_joinSide 234 = .ok (.iadd, 1) := by decide +kernel
theorem dX10_joinSide_235 : decode cX10_joinSide 235 = .ok (.putfield 9, 3) := by decide +kernel
theorem dX10_joinSide_238 : decode cX10_joinSide 238 = .ok (.iinc 6 1, 3) := by decide +kernel
theorem dX10_joinSide_241 : decode cX10_joinSide 241 = .ok (.goto (-208), 3) := by decide +kernel
theorem dX10_joinSide_244 : decode cX10_joinSide 244 = .ok (.return_, 1) := by decide +kernel
theorem dX10_has_0 : decode cX10_has 0 = .ok (.iload_n 1, 1) := by decide +kernel
theorem dX10_has_1 : decode cX10_has 1 = .ok (.ifCond .lt 22, 3) := by decide +kernel
theorem dX10_has_4 : decode cX10_has 4 = .ok (.iload_n 1, 1) := by decide +kernel
theorem dX10_has_5 : decode cX10_has 5 = .ok (.aload_n 0, 1) := by decide +kernel
theorem dX10_has_6 : decode cX10_has 6 = .ok (.getfield 9, 3) := by decide +kernel
theorem dX10_has_9 : decode cX10_has 9 = .ok (.if_icmp .ge 14, 3) := by decide +kernel
theorem dX10_has_12 : decode cX10_has 12 = .ok (.iload_n 1, 1) := by decide +kernel
theorem dX10_has_13 : decode cX10_has 13 = .ok (.sipush 360, 3) := by decide +kernel
theorem dX10_has_16 : decode cX10_has 16 = .ok (.if_icmp .ge 7, 3) := by decide +kernel
theorem dX10_has_19 : decode cX10_has 19 = .ok (.iconst 1, 1) := by decide +kernel
theorem dX10_has_20 : decode cX10_has 20 = .ok (.goto 4, 3) := by decide +kernel
theorem dX10_has_23 : decode cX10_has 23 = .ok (.iconst 0, 1) := by decide +kernel
theorem dX10_has_24 : decode cX10_has 24 = .ok (.ireturn, 1) := by decide +kernel
theorem dX10_panelP_0 : decode cX10_panelP 0 = .ok (.aload_n 0, 1) := by decide +kernel
theorem dX10_panelP_1 : decode cX10_panelP 1 = .ok (.iload_n 1, 1) := by decide +kernel
theorem dX10_panelP_2 : decode cX10_panelP 2 = .ok (.invokevirtual 89, 3) := by decide +kernel
theorem dX10_panelP_5 : decode cX10_panelP 5 = .ok (.ifCond .eq 14, 3) := by decide +kernel
theorem dX10_panelP_8 : decode cX10_panelP 8 = .ok (.aload_n 0, 1) := by decide +kernel
theorem dX10_panelP_9 : decode cX10_panelP 9 = .ok (.getfield 25, 3) := by decide +kernel
theorem dX10_panelP_12 : decode cX10_panelP 12 = .ok (.iload_n 1, 1) := by decide +kernel
theorem dX10_panelP_13 : decode cX10_panelP 13 = .ok (.iaload, 1) := by decide +kernel
theorem dX10_panelP_14 : decode cX10_panelP 14 = .ok (.iconst 2, 1) := by decide +kernel
theorem dX10_panelP_15 : decode cX10_panelP 15 = .ok (.ishr, 1) := by decide +kernel
theorem dX10_panelP_16 : decode cX10_panelP 16 = .ok (.goto 5, 3) := by decide +kernel
theorem dX10_panelP_19 : decode cX10_panelP 19 = .ok (.bipush (-9), 2) := by decide +kernel
theorem dX10_panelP_21 : decode cX10_panelP 21 = .ok (.ireturn, 1) := by decide +kernel
theorem dX10_panelQ_0 : decode cX10_panelQ 0 = .ok (.aload_n 0, 1) := by decide +kernel
theorem dX10_panelQ_1 : decode cX10_panelQ 1 = .ok (.iload_n 1, 1) := by decide +kernel
theorem dX10_panelQ_2 : decode cX10_panelQ 2 = .ok (.invokevirtual 89, 3) := by decide +kernel
theorem dX10_panelQ_5 : decode cX10_panelQ 5 = .ok (.ifCond .eq 14, 3) := by decide +kernel
theorem dX10_panelQ_8 : decode cX10_panelQ 8 = .ok (.aload_n 0, 1) := by decide +kernel
theorem dX10_panelQ_9 : decode cX10_panelQ 9 = .ok (.getfield 29, 3) := by decide +kernel
theorem dX10_panelQ_12 : decode cX10_panelQ 12 = .ok (.iload_n 1, 1) := by decide +kernel
theorem dX10_panelQ_13 : decode cX10_panelQ 13 = .ok (.iaload, 1) := by decide +kernel
theorem dX10_panelQ_14 : decode cX10_panelQ 14 = .ok (.iconst 2, 1) := by decide +kernel
theorem dX10_panelQ_15 : decode cX10_panelQ 15 = .ok (.ishr, 1) := by decide +kernel
theorem dX10_panelQ_16 : decode cX10_panelQ 16 = .ok (.goto 5, 3) := by decide +kernel
theorem dX10_panelQ_19 : decode cX10_panelQ 19 = .ok (.bipush (-9), 2) := by decide +kernel
theorem dX10_panelQ_21 : decode cX10_panelQ 21 = .ok (.ireturn, 1) := by decide +kernel
theorem dX10_sideOfP_0 : decode cX10_sideOfP 0 = .ok (.aload_n 0, 1) := by decide +kernel
theorem dX10_sideOfP_1 : decode cX10_sideOfP 1 = .ok (.iload_n 1, 1) := by decide +kernel
theorem dX10_sideOfP_2 : decode cX10_sideOfP 2 = .ok (.invokevirtual 89, 3) := by decide +kernel
theorem dX10_sideOfP_5 : decode cX10_sideOfP 5 = .ok (.ifCond .eq 14, 3) := by decide +kernel
theorem dX10_sideOfP_8 : decode cX10_sideOfP 8 = .ok (.aload_n 0, 1) := by decide +kernel
theorem dX10_sideOfP_9 : decode cX10_sideOfP 9 = .ok (.getfield 25, 3) := by decide +kernel
theorem dX10_sideOfP_12 : decode cX10_sideOfP 12 = .ok (.iload_n 1, 1) := by decide +kernel
theorem dX10_sideOfP_13 : decode cX10_sideOfP 13 = .ok (.iaload, 1) := by decide +kernel
theorem dX10_sideOfP_14 : decode cX10_sideOfP 14 = .ok (.iconst 3, 1) := by decide +kernel
theorem dX10_sideOfP_15 : decode cX10_sideOfP 15 = .ok (.iand, 1) := by decide +kernel
theorem dX10_sideOfP_16 : decode cX10_sideOfP 16 = .ok (.goto 4, 3) := by decide +kernel
theorem dX10_sideOfP_19 : decode cX10_sideOfP 19 = .ok (.iconst 0, 1) := by decide +kernel
theorem dX10_sideOfP_20 : decode cX10_sideOfP 20 = .ok (.ireturn, 1) := by decide +kernel
theorem dX10_sideOfQ_0 : decode cX10_sideOfQ 0 = .ok (.aload_n 0, 1) := by decide +kernel
theorem dX10_sideOfQ_1 : decode cX10_sideOfQ 1 = .ok (.iload_n 1, 1) := by decide +kernel
theorem dX10_sideOfQ_2 : decode cX10_sideOfQ 2 = .ok (.invokevirtual 89, 3) := by decide +kernel
theorem dX10_sideOfQ_5 : decode cX10_sideOfQ 5 = .ok (.ifCond .eq 14, 3) := by decide +kernel
theorem dX10_sideOfQ_8 : decode cX10_sideOfQ 8 = .ok (.aload_n 0, 1) := by decide +kernel
theorem dX10_sideOfQ_9 : decode cX10_sideOfQ 9 = .ok (.getfield 29, 3) := by decide +kernel
theorem dX10_sideOfQ_12 : decode cX10_sideOfQ 12 = .ok (.iload_n 1, 1) := by decide +kernel
theorem dX10_sideOfQ_13 : decode cX10_sideOfQ 13 = .ok (.iaload, 1) := by decide +kernel
theorem dX10_sideOfQ_14 : decode cX10_sideOfQ 14 = .ok (.iconst 3, 1) := by decide +kernel
theorem dX10_sideOfQ_15 : decode cX10_sideOfQ 15 = .ok (.iand, 1) := by decide +kernel
theorem dX10_sideOfQ_16 : decode cX10_sideOfQ 16 = .ok (.goto 4, 3) := by decide +kernel
theorem dX10_sideOfQ_19 : decode cX10_sideOfQ 19 = .ok (.iconst 0, 1) := by decide +kernel
theorem dX10_sideOfQ_20 : decode cX10_sideOfQ 20 = .ok (.ireturn, 1) := by decide +kernel
theorem dX10_lowOf_0 : decode cX10_lowOf 0 = .ok (.aload_n 0, 1) := by decide +kernel
theorem dX10_lowOf_1 : decode cX10_lowOf 1 = .ok (.iload_n 1, 1) := by decide +kernel
theorem dX10_lowOf_2 : decode cX10_lowOf 2 = .ok (.invokevirtual 89, 3) := by decide +kernel
theorem dX10_lowOf_5 : decode cX10_lowOf 5 = .ok (.ifCond .eq 12, 3) := by decide +kernel
theorem dX10_lowOf_8 : decode cX10_lowOf 8 = .ok (.aload_n 0, 1) := by decide +kernel
theorem dX10_lowOf_9 : decode cX10_lowOf 9 = .ok (.getfield 32, 3) := by decide +kernel
theorem dX10_lowOf_12 : decode cX10_lowOf 12 = .ok (.iload_n 1, 1) := by decide +kernel
theorem dX10_lowOf_13 : decode cX10_lowOf 13 = .ok (.iaload, 1) := by decide +kernel
theorem dX10_lowOf_14 : decode cX10_lowOf 14 = .ok (.goto 4, 3) := by decide +kernel
theorem dX10_lowOf_17 : decode cX10_lowOf 17 = .ok (.iconst 0, 1) := by decide +kernel
theorem dX10_lowOf_18 : decode cX10_lowOf 18 = .ok (.ireturn, 1) := by decide +kernel
theorem dX10_highOf_0 : decode cX10_highOf 0 = .ok (.aload_n 0, 1) := by decide +kernel
theorem dX10_highOf_1 : decode cX10_highOf 1 = .ok (.iload_n 1, 1) := by decide +kernel
theorem dX10_highOf_2 : decode cX10_highOf 2 = .ok (.invokevirtual 89, 3) := by decide +kernel
theorem dX10_highOf_5 : decode cX10_highOf 5 = .ok (.ifCond .eq 12, 3) := by decide +kernel
theorem dX10_highOf_8 : decode cX10_highOf 8 = .ok (.aload_n 0, 1) := by decide +kernel
theorem dX10_highOf_9 : decode cX10_highOf 9 = .ok (.getfield 35, 3) := by decide +kernel
theorem dX10_highOf_12 : decode cX10_highOf 12 = .ok (.iload_n 1, 1) := by decide +kernel
theorem dX10_highOf_13 : decode cX10_highOf 13 = .ok (.iaload, 1) := by decide +kernel
theorem dX10_highOf_14 : decode cX10_highOf 14 = .ok (.goto 4, 3) := by decide +kernel
theorem dX10_highOf_17 : decode cX10_highOf 17 = .ok (.iconst 0, 1) := by decide +kernel
theorem dX10_highOf_18 : decode cX10_highOf 18 = .ok (.ireturn, 1) := by decide +kernel
theorem dX10_value_0 : decode cX10_value 0 = .ok (.aload_n 0, 1) := by decide +kernel
theorem dX10_value_1 : decode cX10_value 1 = .ok (.iload_n 2, 1) := by decide +kernel
theorem dX10_value_2 : decode cX10_value 2 = .ok (.invokevirtual 89, 3) := by decide +kernel
theorem dX10_value_5 : decode cX10_value 5 = .ok (.ifCond .ne 5, 3) := by decide +kernel
theorem dX10_value_8 : decode cX10_value 8 = .ok (.iconst (-1), 1) := by decide +kernel
theorem dX10_value_9 : decode cX10_value 9 = .ok (.ireturn, 1) := by decide +kernel
theorem dX10_value_10 : decode cX10_value 10 = .ok (.iload_n 3, 1) := by decide +kernel
theorem dX10_value_11 : decode cX10_value 11 = .ok (.tableswitch 82 0 5 #[37, 43, 49, 55, 61, 75], 37) := by decide +kernel
theorem dX10_value_48 : decode cX10_value 48 = .ok (.aload_n 0, 1) := by decide +kernel
theorem dX10_value_49 : decode cX10_value 49 = .ok (.iload_n 2, 1) := by decide +kernel
theorem dX10_value_50 : decode cX10_value 50 = .ok (.invokevirtual 93, 3) := by decide +kernel
theorem dX10_value_53 : decode cX10_value 53 = .ok (.ireturn, 1) := by decide +kernel
theorem dX10_value_54 : decode cX10_value 54 = .ok (.aload_n 0, 1) := by decide +kernel
theorem dX10_value_55 : decode cX10_value 55 = .ok (.iload_n 2, 1) := by decide +kernel
theorem dX10_value_56 : decode cX10_value 56 = .ok (.invokevirtual 96, 3) := by decide +kernel
theorem dX10_value_59 : decode cX10_value 59 = .ok (.ireturn, 1) := by decide +kernel
theorem dX10_value_60 : decode cX10_value 60 = .ok (.aload_n 0, 1) := by decide +kernel
theorem dX10_value_61 : decode cX10_value 61 = .ok (.iload_n 2, 1) := by decide +kernel
theorem dX10_value_62 : decode cX10_value 62 = .ok (.invokevirtual 99, 3) := by decide +kernel
theorem dX10_value_65 : decode cX10_value 65 = .ok (.ireturn, 1) := by decide +kernel
theorem dX10_value_66 : decode cX10_value 66 = .ok (.aload_n 0, 1) := by decide +kernel
theorem dX10_value_67 : decode cX10_value 67 = .ok (.iload_n 2, 1) := by decide +kernel
theorem dX10_value_68 : decode cX10_value 68 = .ok (.invokevirtual 102, 3) := by decide +kernel
theorem dX10_value_71 : decode cX10_value 71 = .ok (.ireturn, 1) := by decide +kernel
theorem dX10_value_72 : decode cX10_value 72 = .ok (.aload_n 0, 1) := by decide +kernel
theorem dX10_value_73 : decode cX10_value 73 = .ok (.getfield 35, 3) := by decide +kernel
theorem dX10_value_76 : decode cX10_value 76 = .ok (.iload_n 2, 1) := by decide +kernel
theorem dX10_value_77 : decode cX10_value 77 = .ok (.iaload, 1) := by decide +kernel
theorem dX10_value_78 : decode cX10_value 78 = .ok (.aload_n 0, 1) := by decide +kernel
theorem dX10_value_79 : decode cX10_value 79 = .ok (.getfield 32, 3) := by decide +kernel
theorem dX10_value_82 : decode cX10_value 82 = .ok (.iload_n 2, 1) := by decide +kernel
theorem dX10_value_83 : decode cX10_value 83 = .ok (.iaload, 1) := by decide +kernel
theorem dX10_value_84 : decode cX10_value 84 = .ok (.isub, 1) := by decide +kernel
theorem dX10_value_85 : decode cX10_value 85 = .ok (.ireturn, 1) := by decide +kernel
theorem dX10_value_86 : decode cX10_value 86 = .ok (.aload_n 0, 1) := by decide +kernel
theorem dX10_value_87 : decode cX10_value 87 = .ok (.getfield 38, 3) := by decide +kernel
theorem dX10_value_90 : decode cX10_value 90 = .ok (.iload_n 2, 1) := by decide +kernel
theorem dX10_value_91 : decode cX10_value 91 = .ok (.iaload, 1) := by decide +kernel
theorem dX10_value_92 : decode cX10_value 92 = .ok (.ireturn, 1) := by decide +kernel
theorem dX10_value_93 : decode cX10_value 93 = .ok (.aload_n 0, 1) := by decide +kernel
theorem dX10_value_94 : decode cX10_value 94 = .ok (.aload_n 1, 1) := by decide +kernel
theorem dX10_value_95 : decode cX10_value 95 = .ok (.iload_n 2, 1) := by decide +kernel
theorem dX10_value_96 : decode cX10_value 96 = .ok (.invokevirtual 105, 3) := by decide +kernel
theorem dX10_value_99 : decode cX10_value 99 = .ok (.ifCond .eq 7, 3) := by decide +kernel
theorem dX10_value_102 : decode cX10_value 102 = .ok (.iconst 1, 1) := by decide +kernel
theorem dX10_value_103 : decode cX10_value 103 = .ok (.goto 4, 3) := by decide +kernel
theorem dX10_value_106 : decode cX10_value 106 = .ok (.iconst 0, 1) := by decide +kernel
theorem dX10_value_107 : decode cX10_value 107 = .ok (.ireturn, 1) := by decide +kernel
theorem dX10_isFold_0 : decode cX10_isFold 0 = .ok (.aload_n 1, 1) := by decide +kernel
theorem dX10_isFold_1 : decode cX10_isFold 1 = .ok (.aload_n 0, 1) := by decide +kernel
theorem dX10_isFold_2 : decode cX10_isFold 2 = .ok (.iload_n 2, 1) := by decide +kernel
theorem dX10_isFold_3 : decode cX10_isFold 3 = .ok (.invokevirtual 99, 3) := by decide +kernel
theorem dX10_isFold_6 : decode cX10_isFold 6 = .ok (.invokevirtual 109, 3) := by decide +kernel
theorem dX10_isFold_9 : decode cX10_isFold 9 = .ok (.astore_n 3, 1) := by decide +kernel
theorem dX10_isFold_10 : decode cX10_isFold 10 = .ok (.aload_n 3, 1) := by decide +kernel
theorem dX10_isFold_11 : decode cX10_isFold 11 = .ok (.aload_n 0, 1) := by decide +kernel
theorem dX10_isFold_12 : decode cX10_isFold 12 = .ok (.iload_n 2, 1) := by decide +kernel
theorem dX10_isFold_13 : decode cX10_isFold 13 = .ok (.invokevirtual 93, 3) := by decide +kernel
theorem dX10_isFold_16 : decode cX10_isFold 16 = .ok (.aload_n 0, 1) := by decide +kernel
theorem dX10_isFold_17 : decode cX10_isFold 17 = .ok (.iload_n 2, 1) := by decide +kernel
theorem dX10_isFold_18 : decode cX10_isFold 18 = .ok (.invokevirtual 96, 3) := by decide +kernel
theorem dX10_isFold_21 : decode cX10_isFold 21 = .ok (.invokevirtual 115, 3) := by decide +kernel
theorem dX10_isFold_24 : decode cX10_isFold 24 = .ok (.ifCond .eq 19, 3) := by decide +kernel
theorem dX10_isFold_27 : decode cX10_isFold 27 = .ok (.aload_n 3, 1) := by decide +kernel
theorem dX10_isFold_28 : decode cX10_isFold 28 = .ok (.invokevirtual 121, 3) := by decide +kernel
theorem dX10_isFold_31 : decode cX10_isFold 31 = .ok (.aload_n 0, 1) := by decide +kernel
theorem dX10_isFold_32 : decode cX10_isFold 32 = .ok (.iload_n 2, 1) := by decide +kernel
theorem dX10_isFold_33 : decode cX10_isFold 33 = .ok (.invokevirtual 102, 3) := by decide +kernel
theorem dX10_isFold_36 : decode cX10_isFold 36 = .ok (.if_icmp .ne 7, 3) := by decide +kernel
theorem dX10_isFold_39 : decode cX10_isFold 39 = .ok (.iconst 1, 1) := by decide +kernel
theorem dX10_isFold_40 : decode cX10_isFold 40 = .ok (.goto 4, 3) := by decide +kernel
theorem dX10_isFold_43 : decode cX10_isFold 43 = .ok (.iconst 0, 1) := by decide +kernel
theorem dX10_isFold_44 : decode cX10_isFold 44 = .ok (.ireturn, 1) := by decide +kernel
theorem dX10_open_0 : decode cX10_open 0 = .ok (.iload_n 2, 1) := by decide +kernel
theorem dX10_open_1 : decode cX10_open 1 = .ok (.ifCond .lt 8, 3) := by decide +kernel
theorem dX10_open_4 : decode cX10_open 4 = .ok (.iload_n 2, 1) := by decide +kernel
theorem dX10_open_5 : decode cX10_open 5 = .ok (.iconst 3, 1) := by decide +kernel
theorem dX10_open_6 : decode cX10_open 6 = .ok (.if_icmp .le 5, 3) := by decide +kernel
theorem dX10_open_9 : decode cX10_open 9 = .ok (.iconst 0, 1) := by decide +kernel
theorem dX10_open_10 : decode cX10_open 10 = .ok (.ireturn, 1) := by decide +kernel
theorem dX10_open_11 : decode cX10_open 11 = .ok (.iconst 4, 1) := by decide +kernel
theorem dX10_open_12 : decode cX10_open 12 = .ok (.iload_n 1, 1) := by decide +kernel
theorem dX10_open_13 : decode cX10_open 13 = .ok (.imul, 1) := by decide +kernel
theorem dX10_open_14 : decode cX10_open 14 = .ok (.iload_n 2, 1) := by decide +kernel
theorem dX10_open_15 : decode cX10_open 15 = .ok (.iadd, 1) := by decide +kernel
theorem dX10_open_16 : decode cX10_open 16 = .ok (.istore_n 3, 1) := by decide +kernel
theorem dX10_open_17 : decode cX10_open 17 = .ok (.aload_n 0, 1) := by decide +kernel
theorem dX10_open_18 : decode cX10_open 18 = .ok (.getfield 44, 3) := by decide +kernel
theorem dX10_open_21 : decode cX10_open 21 = .ok (.invokevirtual 125, 3) := by decide +kernel
theorem dX10_open_24 : decode cX10_open 24 = .ok (.iconst 0, 1) := by decide +kernel
theorem dX10_open_25 : decode cX10_open 25 = .ok (.istore 4, 2) := by decide +kernel
theorem dX10_open_27 : decode cX10_open 27 = .ok (.iload 4, 2) := by decide +kernel
theorem dX10_open_29 : decode cX10_open 29 = .ok (.aload_n 0, 1) := by decide +kernel
theorem dX10_open_30 : decode cX10_open 30 = .ok (.getfield 9, 3) := by decide +kernel
theorem dX10_open_33 : decode cX10_open 33 = .ok (.if_icmp .ge 70, 3) := by decide +kernel
theorem dX10_open_36 : decode cX10_open 36 = .ok (.iload 4, 2) := by decide +kernel
theorem dX10_open_38 : decode cX10_open 38 = .ok (.sipush 360, 3) := by decide +kernel
theorem dX10_open_41 : decode cX10_open 41 = .ok (.if_icmp .ge 62, 3) := by decide +kernel
theorem dX10_open_44 : decode cX10_open 44 = .ok (.aload_n 0, 1) := by decide +kernel
theorem dX10_open_45 : decode cX10_open 45 = .ok (.getfield 25, 3) := by decide +kernel
theorem dX10_open_48 : decode cX10_open 48 = .ok (.iload 4, 2) := by decide +kernel
theorem dX10_open_50 : decode cX10_open 50 = .ok (.iaload, 1) := by decide +kernel
theorem dX10_open_51 : decode cX10_open 51 = .ok (.iload_n 3, 1) := by decide +kernel
theorem dX10_open_52 : decode cX10_open 52 = .ok (.if_icmp .eq 14, 3) := by decide +kernel
theorem dX10_open_55 : decode cX10_open 55 = .ok (.aload_n 0, 1) := by decide +kernel
theorem dX10_open_56 : decode cX10_open 56 = .ok (.getfield 29, 3) := by decide +kernel
theorem dX10_open_59 : decode cX10_open 59 = .ok (.iload 4, 2) := by decide +kernel
theorem dX10_open_61 : decode cX10_open 61 = .ok (.iaload, 1) := by decide +kernel
theorem dX10_open_62 : decode cX10_open 62 = .ok (.iload_n 3, 1) := by decide +kernel
theorem dX10_open_63 : decode cX10_open 63 = .ok (.if_icmp .ne 34, 3) := by decide +kernel
theorem dX10_open_66 : decode cX10_open 66 = .ok (.aload_n 0, 1) := by decide +kernel
theorem dX10_open_67 : decode cX10_open 67 = .ok (.getfield 44, 3) := by decide +kernel
theorem dX10_open_70 : decode cX10_open 70 = .ok (.aload_n 0, 1) := by decide +kernel
theorem dX10_open_71 : decode cX10_open 71 = .ok (.getfield 32, 3) := by decide +kernel
theorem dX10_open_74 : decode cX10_open 74 = .ok (.iload 4, 2) := by decide +kernel
theorem dX10_open_76 : decode cX10_open 76 = .ok (.iaload, 1) := by decide +kernel
theorem dX10_open_77 : decode cX10_open 77 = .ok (.aload_n 0, 1) := by decide +kernel
theorem dX10_open_78 : decode cX10_open 78 = .ok (.getfield 22, 3) := by decide +kernel
theorem dX10_open_81 : decode cX10_open 81 = .ok (.isub, 1) := by decide +kernel
theorem dX10_open_82 : decode cX10_open 82 = .ok (.aload_n 0, 1) := by decide +kernel
theorem dX10_open_83 : decode cX10_open 83 = .ok (.getfield 35, 3) := by decide +kernel
theorem dX10_open_86 : decode cX10_open 86 = .ok (.iload 4, 2) := by decide +kernel
theorem dX10_open_88 : decode cX10_open 88 = .ok (.iaload, 1) := by decide +kernel
theorem dX10_open_89 : decode cX10_open 89 = .ok (.aload_n 0, 1) := by decide +kernel
theorem dX10_open_90 : decode cX10_open 90 = .ok (.getfield 22, 3) := by decide +kernel
theorem dX10_open_93 : decode cX10_open 93 = .ok (.iadd, 1) := by decide +kernel
theorem dX10_open_94 : decode cX10_open 94 = .ok (.invokevirtual 128, 3) := by decide +kernel
theorem dX10_open_97 : decode cX10_open 97 = .ok (.iinc 4 1, 3) := by decide +kernel
theorem dX10_open_100 : decode cX10_open 100 = .ok (.goto (-73), 3) := by decide +kernel
theorem dX10_open_103 : decode cX10_open 103 = .ok (.aload_n 0, 1) := by decide +kernel
theorem dX10_open_104 : decode cX10_open 104 = .ok (.getfield 18, 3) := by decide +kernel
theorem dX10_open_107 : decode cX10_open 107 = .ok (.iload_n 1, 1) := by decide +kernel
theorem dX10_open_108 : decode cX10_open 108 = .ok (.invokevirtual 55, 3) := by decide +kernel
theorem dX10_open_111 : decode cX10_open 111 = .ok (.astore 4, 2) := by decide +kernel
theorem dX10_open_113 : decode cX10_open 113 = .ok (.aload_n 0, 1) := by decide +kernel
theorem dX10_open_114 : decode cX10_open 114 = .ok (.getfield 44, 3) := by decide +kernel
theorem dX10_open_117 : decode cX10_open 117 = .ok (.aload 4, 2) := by decide +kernel
theorem dX10_open_119 : decode cX10_open 119 = .ok (.getfield 80, 3) := by decide +kernel
theorem dX10_open_122 : decode cX10_open 122 = .ok (.iload_n 2, 1) := by decide +kernel
theorem dX10_open_123 : decode cX10_open 123 = .ok (.iaload, 1) := by decide +kernel
theorem dX10_open_124 : decode cX10_open 124 = .ok (.aload 4, 2) := by decide +kernel
theorem dX10_open_126 : decode cX10_open 126 = .ok (.getfield 83, 3) := by decide +kernel
theorem dX10_open_129 : decode cX10_open 129 = .ok (.iload_n 2, 1) := by decide +kernel
theorem dX10_open_130 : decode cX10_open 130 = .ok (.iaload, 1) := by decide +kernel
theorem dX10_open_131 : decode cX10_open 131 = .ok (.invokevirtual 132, 3) := by decide +kernel
theorem dX10_open_134 : decode cX10_open 134 = .ok (.ireturn, 1) := by decide +kernel
theorem dJ9_abs_0f7a4_0 : decode cJ9_abs_0f7a4 0 = .ok (.iload_n 0, 1) := by decide +kernel
theorem dJ9_abs_0f7a4_1 : decode cJ9_abs_0f7a4 1 = .ok (.ifCond .ge 8, 3) := by decide +kernel
theorem dJ9_abs_0f7a4_4 : decode cJ9_abs_0f7a4 4 = .ok (.iload_n 0, 1) := by decide +kernel
theorem dJ9_abs_0f7a4_5 : decode cJ9_abs_0f7a4 5 = .ok (.ineg, 1) := by decide +kernel
theorem dJ9_abs_0f7a4_6 : decode cJ9_abs_0f7a4 6 = .ok (.goto 4, 3) := by decide +kernel
theorem dJ9_abs_0f7a4_9 : decode cJ9_abs_0f7a4 9 = .ok (.iload_n 0, 1) := by decide +kernel
theorem dJ9_abs_0f7a4_10 : decode cJ9_abs_0f7a4 10 = .ok (.ireturn, 1) := by decide +kernel
theorem dJ9_abs_067f4_0 : decode cJ9_abs_067f4 0 = .ok (.lload_n 0, 1) := by decide +kernel
theorem dJ9_abs_067f4_1 : decode cJ9_abs_067f4 1 = .ok (.lconst 0, 1) := by decide +kernel
theorem dJ9_abs_067f4_2 : decode cJ9_abs_067f4 2 = .ok (.lcmp, 1) := by decide +kernel
theorem dJ9_abs_067f4_3 : decode cJ9_abs_067f4 3 = .ok (.ifCond .ge 8, 3) := by decide +kernel
theorem dJ9_abs_067f4_6 : decode cJ9_abs_067f4 6 = .ok (.lload_n 0, 1) := by decide +kernel
theorem dJ9_abs_067f4_7 : decode cJ9_abs_067f4 7 = .ok (.lneg, 1) := by decide +kernel
theorem dJ9_abs_067f4_8 : decode cJ9_abs_067f4 8 = .ok (.goto 4, 3) := by decide +kernel
theorem dJ9_abs_067f4_11 : decode cJ9_abs_067f4 11 = .ok (.lload_n 0, 1) := by decide +kernel
theorem dJ9_abs_067f4_12 : decode cJ9_abs_067f4 12 = .ok (.lreturn, 1) := by decide +kernel
theorem dJ9_max_7cf53_0 : decode cJ9_max_7cf53 0 = .ok (.iload_n 0, 1) := by decide +kernel
theorem dJ9_max_7cf53_1 : decode cJ9_max_7cf53 1 = .ok (.iload_n 1, 1) := by decide +kernel
theorem dJ9_max_7cf53_2 : decode cJ9_max_7cf53 2 = .ok (.if_icmp .lt 7, 3) := by decide +kernel
theorem dJ9_max_7cf53_5 : decode cJ9_max_7cf53 5 = .ok (.iload_n 0, 1) := by decide +kernel
theorem dJ9_max_7cf53_6 : decode cJ9_max_7cf53 6 = .ok (.goto 4, 3) := by decide +kernel
theorem dJ9_max_7cf53_9 : decode cJ9_max_7cf53 9 = .ok (.iload_n 1, 1) := by decide +kernel
theorem dJ9_max_7cf53_10 : decode cJ9_max_7cf53 10 = .ok (.ireturn, 1) := by decide +kernel
theorem dJ9_min_7cf53_0 : decode cJ9_min_7cf53 0 = .ok (.iload_n 0, 1) := by decide +kernel
theorem dJ9_min_7cf53_1 : decode cJ9_min_7cf53 1 = .ok (.iload_n 1, 1) := by decide +kernel
theorem dJ9_min_7cf53_2 : decode cJ9_min_7cf53 2 = .ok (.if_icmp .gt 7, 3) := by decide +kernel
theorem dJ9_min_7cf53_5 : decode cJ9_min_7cf53 5 = .ok (.iload_n 0, 1) := by decide +kernel
theorem dJ9_min_7cf53_6 : decode cJ9_min_7cf53 6 = .ok (.goto 4, 3) := by decide +kernel
theorem dJ9_min_7cf53_9 : decode cJ9_min_7cf53 9 = .ok (.iload_n 1, 1) := by decide +kernel
theorem dJ9_min_7cf53_10 : decode cJ9_min_7cf53 10 = .ok (.ireturn, 1) := by decide +kernel
