theorem dX11_init_0 : decode cX11_init 0 = .ok (.aload_n 0, 1) := by decide +kernel
theorem dX11_init_1 : decode cX11_init 1 = .ok (.invokespecial 1, 3) := by decide +kernel
theorem dX11_init_4 : decode cX11_init 4 = .ok (.aload_n 0, 1) := by decide +kernel
theorem dX11_init_5 : decode cX11_init 5 = .ok (.new 7, 3) := by decide +kernel
theorem dX11_init_8 : decode cX11_init 8 = .ok (.dup, 1) := by decide +kernel
theorem dX11_init_9 : decode cX11_init 9 = .ok (.invokespecial 9, 3) := by decide +kernel
theorem dX11_init_12 : decode cX11_init 12 = .ok (.putfield 10, 3) := by decide +kernel
theorem dX11_init_15 : decode cX11_init 15 = .ok (.aload_n 0, 1) := by decide +kernel
theorem dX11_init_16 : decode cX11_init 16 = .ok (.new 7, 3) := by decide +kernel
theorem dX11_init_19 : decode cX11_init 19 = .ok (.dup, 1) := by decide +kernel
theorem dX11_init_20 : decode cX11_init 20 = .ok (.invokespecial 9, 3) := by decide +kernel
theorem dX11_init_23 : decode cX11_init 23 = .ok (.putfield 16, 3) := by decide +kernel
theorem dX11_init_26 : decode cX11_init 26 = .ok (.aload_n 0, 1) := by decide +kernel
theorem dX11_init_27 : decode cX11_init 27 = .ok (.iconst 2, 1) := by decide +kernel
theorem dX11_init_28 : decode cX11_init 28 = .ok (.anewarray 7, 3) := by decide +kernel
theorem dX11_init_31 : decode cX11_init 31 = .ok (.putfield 19, 3) := by decide +kernel
theorem dX11_init_34 : decode cX11_init 34 = .ok (.aload_n 0, 1) := by decide +kernel
theorem dX11_init_35 : decode cX11_init 35 = .ok (.iconst 2, 1) := by decide +kernel
theorem dX11_init_36 : decode cX11_init 36 = .ok (.newarray .boolean, 2) := by decide +kernel
theorem dX11_init_38 : decode cX11_init 38 = .ok (.putfield 23, 3) := by decide +kernel
theorem dX11_init_41 : decode cX11_init 41 = .ok (.aload_n 0, 1) := by decide +kernel
theorem dX11_init_42 : decode cX11_init 42 = .ok (.new 27, 3) := by decide +kernel
theorem dX11_init_45 : decode cX11_init 45 = .ok (.dup, 1) := by decide +kernel
theorem dX11_init_46 : decode cX11_init 46 = .ok (.invokespecial 29, 3) := by decide +kernel
theorem dX11_init_49 : decode cX11_init 49 = .ok (.putfield 30, 3) := by decide +kernel
theorem dX11_init_52 : decode cX11_init 52 = .ok (.aload_n 0, 1) := by decide +kernel
theorem dX11_init_53 : decode cX11_init 53 = .ok (.sipush 160, 3) := by decide +kernel
theorem dX11_init_56 : decode cX11_init 56 = .ok (.newarray .int, 2) := by decide +kernel
theorem dX11_init_58 : decode cX11_init 58 = .ok (.putfield 34, 3) := by decide +kernel
theorem dX11_init_61 : decode cX11_init 61 = .ok (.aload_n 0, 1) := by decide +kernel
theorem dX11_init_62 : decode cX11_init 62 = .ok (.new 38, 3) := by decide +kernel
theorem dX11_init_65 : decode cX11_init 65 = .ok (.dup, 1) := by decide +kernel
theorem dX11_init_66 : decode cX11_init 66 = .ok (.invokespecial 40, 3) := by decide +kernel
theorem dX11_init_69 : decode cX11_init 69 = .ok (.putfield 41, 3) := by decide +kernel
theorem dX11_init_72 : decode cX11_init 72 = .ok (.aload_n 0, 1) := by decide +kernel
theorem dX11_init_73 : decode cX11_init 73 = .ok (.new 45, 3) := by decide +kernel
theorem dX11_init_76 : decode cX11_init 76 = .ok (.dup, 1) := by decide +kernel
theorem dX11_init_77 : decode cX11_init 77 = .ok (.invokespecial 47, 3) := by decide +kernel
theorem dX11_init_80 : decode cX11_init 80 = .ok (.putfield 48, 3) := by decide +kernel
theorem dX11_init_83 : decode cX11_init 83 = .ok (.aload_n 0, 1) := by decide +kernel
theorem dX11_init_84 : decode cX11_init 84 = .ok (.new 52, 3) := by decide +kernel
theorem dX11_init_87 : decode cX11_init 87 = .ok (.dup, 1) := by decide +kernel
theorem dX11_init_88 : decode cX11_init 88 = .ok (.invokespecial 54, 3) := by decide +kernel
theorem dX11_init_91 : decode cX11_init 91 = .ok (.putfield 55, 3) := by decide +kernel
theorem dX11_init_94 : decode cX11_init 94 = .ok (.aload_n 0, 1) := by decide +kernel
theorem dX11_init_95 : decode cX11_init 95 = .ok (.aload_n 0, 1) := by decide +kernel
theorem dX11_init_96 : decode cX11_init 96 = .ok (.getfield 55, 3) := by decide +kernel
theorem dX11_init_99 : decode cX11_init 99 = .ok (.getfield 59, 3) := by decide +kernel
theorem dX11_init_102 : decode cX11_init 102 = .ok (.putfield 63, 3) := by decide +kernel
theorem dX11_init_105 : decode cX11_init 105 = .ok (.aload_n 0, 1) := by decide +kernel
theorem dX11_init_106 : decode cX11_init 106 = .ok (.aload_n 0, 1) := by decide +kernel
theorem dX11_init_107 : decode cX11_init 107 = .ok (.getfield 55, 3) := by decide +kernel
theorem dX11_init_110 : decode cX11_init 110 = .ok (.getfield 64, 3) := by decide +kernel
theorem dX11_init_113 : decode cX11_init 113 = .ok (.putfield 68, 3) := by decide +kernel
theorem dX11_init_116 : decode cX11_init 116 = .ok (.aload_n 0, 1) := by decide +kernel
theorem dX11_init_117 : decode cX11_init 117 = .ok (.aload_n 0, 1) := by decide +kernel
theorem dX11_init_118 : decode cX11_init 118 = .ok (.getfield 55, 3) := by decide +kernel
theorem dX11_init_121 : decode cX11_init 121 = .ok (.getfield 69, 3) := by decide +kernel
theorem dX11_init_124 : decode cX11_init 124 = .ok (.putfield 73, 3) := by decide +kernel
theorem dX11_init_127 : decode cX11_init 127 = .ok (.aload_n 0, 1) := by decide +kernel
theorem dX11_init_128 : decode cX11_init 128 = .ok (.aload_n 0, 1) := by decide +kernel
theorem dX11_init_129 : decode cX11_init 129 = .ok (.getfield 55, 3) := by decide +kernel
theorem dX11_init_132 : decode cX11_init 132 = .ok (.getfield 74, 3) := by decide +kernel
theorem dX11_init_135 : decode cX11_init 135 = .ok (.putfield 77, 3) := by decide +kernel
theorem dX11_init_138 : decode cX11_init 138 = .ok (.aload_n 0, 1) := by decide +kernel
theorem dX11_init_139 : decode cX11_init 139 = .ok (.aload_n 0, 1) := by decide +kernel
theorem dX11_init_140 : decode cX11_init 140 = .ok (.getfield 55, 3) := by decide +kernel
theorem dX11_init_143 : decode cX11_init 143 = .ok (.getfield 78, 3) := by decide +kernel
theorem dX11_init_146 : decode cX11_init 146 = .ok (.putfield 81, 3) := by decide +kernel
theorem dX11_init_149 : decode cX11_init 149 = .ok (.aload_n 0, 1) := by decide +kernel
theorem dX11_init_150 : decode cX11_init 150 = .ok (.iconst 0, 1) := by decide +kernel
theorem dX11_init_151 : decode cX11_init 151 = .ok (.putfield 82, 3) := by decide +kernel
theorem dX11_init_154 : decode cX11_init 154 = .ok (.aload_n 0, 1) := by decide +kernel
theorem dX11_init_155 : decode cX11_init 155 = .ok (.iconst 0, 1) := by decide +kernel
theorem dX11_init_156 : decode cX11_init 156 = .ok (.putfield 86, 3) := by decide +kernel
theorem dX11_init_159 : decode cX11_init 159 = .ok (.iconst 0, 1) := by decide +kernel
theorem dX11_init_160 : decode cX11_init 160 = .ok (.istore_n 1, 1) := by decide +kernel
theorem dX11_init_161 : decode cX11_init 161 = .ok (.iload_n 1, 1) := by decide +kernel
theorem dX11_init_162 : decode cX11_init 162 = .ok (.iconst 2, 1) := by decide +kernel
theorem dX11_init_163 : decode cX11_init 163 = .ok (.if_icmp .ge 22, 3) := by decide +kernel
theorem dX11_init_166 : decode cX11_init 166 = .ok (.aload_n 0, 1) := by decide +kernel
theorem dX11_init_167 : decode cX11_init 167 = .ok (.getfield 19, 3) := by decide +kernel
theorem dX11_init_170 : decode cX11_init 170 = .ok (.iload_n 1, 1) := by decide +kernel
theorem dX11_init_171 : decode cX11_init 171 = .ok (.new 7, 3) := by decide +kernel
theorem dX11_init_174 : decode cX11_init 174 = .ok (.dup, 1) := by decide +kernel
theorem dX11_init_175 : decode cX11_init 175 = .ok (.invokespecial 9, 3) := by decide +kernel
theorem dX11_init_178 : decode cX11_init 178 = .ok (.aastore, 1) := by decide +kernel
theorem dX11_init_179 : decode cX11_init 179 = .ok (.iinc 1 1, 3) := by decide +kernel
theorem dX11_init_182 : decode cX11_init 182 = .ok (.goto (-21), 3) := by decide +kernel
theorem dX11_init_185 : decode cX11_init 185 = .ok (.return_, 1) := by decide +kernel
theorem dX11_type_0 : decode cX11_type 0 = .ok (.iload_n 1, 1) := by decide +kernel
theorem dX11_type_1 : decode cX11_type 1 = .ok (.ifCond .lt 9, 3) := by decide +kernel
theorem dX11_type_4 : decode cX11_type 4 = .ok (.iload_n 1, 1) := by decide +kernel
theorem dX11_type_5 : decode cX11_type 5 = .ok (.bipush 127, 2) := by decide +kernel
theorem dX11_type_7 : decode cX11_type 7 = .ok (.if_icmp .le 5, 3) := by decide +kernel
theorem dX11_type_10 : decode cX11_type 10 = .ok (.iconst (-1), 1) := by decide +kernel
theorem dX11_type_11 : decode cX11_type 11 = .ok (.ireturn, 1) := by decide +kernel
theorem dX11_type_12 : decode cX11_type 12 = .ok (.aload_n 0, 1) := by decide +kernel
theorem dX11_type_13 : decode cX11_type 13 = .ok (.getfield 82, 3) := by decide +kernel
theorem dX11_type_16 : decode cX11_type 16 = .ok (.ifCond .lt 15, 3) := by decide +kernel
theorem dX11_type_19 : decode cX11_type 19 = .ok (.aload_n 0, 1) := by decide +kernel
theorem dX11_type_20 : decode cX11_type 20 = .ok (.getfield 82, 3) := by decide +kernel
theorem dX11_type_23 : decode cX11_type 23 = .ok (.aload_n 0, 1) := by decide +kernel
theorem dX11_type_24 : decode cX11_type 24 = .ok (.getfield 34, 3) := by decide +kernel
theorem dX11_type_27 : decode cX11_type 27 = .ok (.arraylength, 1) := by decide +kernel
theorem dX11_type_28 : decode cX11_type 28 = .ok (.if_icmp .lt 6, 3) := by decide +kernel
theorem dX11_type_31 : decode cX11_type 31 = .ok (.bipush (-3), 2) := by decide +kernel
theorem dX11_type_33 : decode cX11_type 33 = .ok (.ireturn, 1) := by decide +kernel
theorem dX11_type_34 : decode cX11_type 34 = .ok (.aload_n 0, 1) := by decide +kernel
theorem dX11_type_35 : decode cX11_type 35 = .ok (.getfield 34, 3) := by decide +kernel
theorem dX11_type_38 : decode cX11_type 38 = .ok (.aload_n 0, 1) := by decide +kernel
theorem dX11_type_39 : decode cX11_type 39 = .ok (.getfield 82, 3) := by decide +kernel
theorem dX11_type_42 : decode cX11_type 42 = .ok (.iload_n 1, 1) := by decide +kernel
theorem dX11_type_43 : decode cX11_type 43 = .ok (.iastore, 1) := by decide +kernel
theorem dX11_type_44 : decode cX11_type 44 = .ok (.aload_n 0, 1) := by decide +kernel
theorem dX11_type_45 : decode cX11_type 45 = .ok (.dup, 1) := by decide +kernel
theorem dX11_type_46 : decode cX11_type 46 = .ok (.getfield 82, 3) := by decide +kernel
theorem dX11_type_49 : decode cX11_type 49 = .ok (.iconst 1, 1) := by decide +kernel
theorem dX11_type_50 : decode cX11_type 50 = .ok (.iadd, 1) := by decide +kernel
theorem dX11_type_51 : decode cX11_type 51 = .ok (.putfield 82, 3) := by decide +kernel
theorem dX11_type_54 : decode cX11_type 54 = .ok (.aload_n 0, 1) := by decide +kernel
theorem dX11_type_55 : decode cX11_type 55 = .ok (.getfield 82, 3) := by decide +kernel
theorem dX11_type_58 : decode cX11_type 58 = .ok (.ireturn, 1) := by decide +kernel
theorem dX11_clearText_0 : decode cX11_clearText 0 = .ok (.aload_n 0, 1) := by decide +kernel
theorem dX11_clearText_1 : decode cX11_clearText 1 = .ok (.getfield 82, 3) := by decide +kernel
theorem dX11_clearText_4 : decode cX11_clearText 4 = .ok (.istore_n 1, 1) := by decide +kernel
theorem dX11_clearText_5 : decode cX11_clearText 5 = .ok (.aload_n 0, 1) := by decide +kernel
theorem dX11_clearText_6 : decode cX11_clearText 6 = .ok (.iconst 0, 1) := by decide +kernel
theorem dX11_clearText_7 : decode cX11_clearText 7 = .ok (.putfield 82, 3) := by decide +kernel
theorem dX11_clearText_10 : decode cX11_clearText 10 = .ok (.iload_n 1, 1) := by decide +kernel
theorem dX11_clearText_11 : decode cX11_clearText 11 = .ok (.ireturn, 1) := by decide +kernel
theorem dX11_load_0 : decode cX11_load 0 = .ok (.aload_n 0, 1) := by decide +kernel
theorem dX11_load_1 : decode cX11_load 1 = .ok (.getfield 41, 3) := by decide +kernel
theorem dX11_load_4 : decode cX11_load 4 = .ok (.aload_n 0, 1) := by decide +kernel
theorem dX11_load_5 : decode cX11_load 5 = .ok (.getfield 34, 3) := by decide +kernel
theorem dX11_load_8 : decode cX11_load 8 = .ok (.aload_n 0, 1) := by decide +kernel
theorem dX11_load_9 : decode cX11_load 9 = .ok (.getfield 82, 3) := by decide +kernel
theorem dX11_load_12 : decode cX11_load 12 = .ok (.invokevirtual 89, 3) := by decide +kernel
theorem dX11_load_15 : decode cX11_load 15 = .ok (.istore_n 1, 1) := by decide +kernel
theorem dX11_load_16 : decode cX11_load 16 = .ok (.aload_n 0, 1) := by decide +kernel
theorem dX11_load_17 : decode cX11_load 17 = .ok (.aload_n 0, 1) := by decide +kernel
theorem dX11_load_18 : decode cX11_load 18 = .ok (.getfield 41, 3) := by decide +kernel
theorem dX11_load_21 : decode cX11_load 21 = .ok (.getfield 93, 3) := by decide +kernel
theorem dX11_load_24 : decode cX11_load 24 = .ok (.putfield 86, 3) := by decide +kernel
theorem dX11_load_27 : decode cX11_load 27 = .ok (.aload_n 0, 1) := by decide +kernel
theorem dX11_load_28 : decode cX11_load 28 = .ok (.getfield 86, 3) := by decide +kernel
theorem dX11_load_31 : decode cX11_load 31 = .ok (.ifCond .ne 24, 3) := by decide +kernel
theorem dX11_load_34 : decode cX11_load 34 = .ok (.aload_n 0, 1) := by decide +kernel
theorem dX11_load_35 : decode cX11_load 35 = .ok (.getfield 10, 3) := by decide +kernel
theorem dX11_load_38 : decode cX11_load 38 = .ok (.aload_n 0, 1) := by decide +kernel
theorem dX11_load_39 : decode cX11_load 39 = .ok (.getfield 41, 3) := by decide +kernel
theorem dX11_load_42 : decode cX11_load 42 = .ok (.getfield 96, 3) := by decide +kernel
theorem dX11_load_45 : decode cX11_load 45 = .ok (.invokevirtual 99, 3) := by decide +kernel
theorem dX11_load_48 : decode cX11_load 48 = .ok (.aload_n 0, 1) := by decide +kernel
theorem dX11_load_49 : decode cX11_load 49 = .ok (.getfield 30, 3) := by decide +kernel
theorem dX11_load_52 : decode cX11_load 52 = .ok (.invokevirtual 103, 3) := by decide +kernel
theorem dX11_load_55 : decode cX11_load 55 = .ok (.iload_n 1, 1) := by decide +kernel
theorem dX11_load_56 : decode cX11_load 56 = .ok (.ireturn, 1) := by decide +kernel
theorem dX11_faultKind_0 : decode cX11_faultKind 0 = .ok (.aload_n 0, 1) := by decide +kernel
theorem dX11_faultKind_1 : decode cX11_faultKind 1 = .ok (.getfield 86, 3) := by decide +kernel
theorem dX11_faultKind_4 : decode cX11_faultKind 4 = .ok (.ireturn, 1) := by decide +kernel
theorem dX11_setSheet_0 : decode cX11_setSheet 0 = .ok (.aload_n 0, 1) := by decide +kernel
theorem dX11_setSheet_1 : decode cX11_setSheet 1 = .ok (.getfield 10, 3) := by decide +kernel
theorem dX11_setSheet_4 : decode cX11_setSheet 4 = .ok (.iload_n 1, 1) := by decide +kernel
theorem dX11_setSheet_5 : decode cX11_setSheet 5 = .ok (.iload_n 2, 1) := by decide +kernel
theorem dX11_setSheet_6 : decode cX11_setSheet 6 = .ok (.invokevirtual 106, 3) := by decide +kernel
theorem dX11_setSheet_9 : decode cX11_setSheet 9 = .ok (.istore_n 3, 1) := by decide +kernel
theorem dX11_setSheet_10 : decode cX11_setSheet 10 = .ok (.iload_n 3, 1) := by decide +kernel
theorem dX11_setSheet_11 : decode cX11_setSheet 11 = .ok (.ifCond .eq 5, 3) := by decide +kernel
theorem dX11_setSheet_14 : decode cX11_setSheet 14 = .ok (.iload_n 3, 1) := by decide +kernel
theorem dX11_setSheet_15 : decode cX11_setSheet 15 = .ok (.ireturn, 1) := by decide +kernel
theorem dX11_setSheet_16 : decode cX11_setSheet 16 = .ok (.aload_n 0, 1) := by decide +kernel
theorem dX11_setSheet_17 : decode cX11_setSheet 17 = .ok (.getfield 30, 3) := by decide +kernel
theorem dX11_setSheet_20 : decode cX11_setSheet 20 = .ok (.aload_n 0, 1) := by decide +kernel
theorem dX11_setSheet_21 : decode cX11_setSheet 21 = .ok (.getfield 10, 3) := by decide +kernel
theorem dX11_setSheet_24 : decode cX11_setSheet 24 = .ok (.aload_n 0, 1) := by decide +kernel
theorem dX11_setSheet_25 : decode cX11_setSheet 25 = .ok (.getfield 77, 3) := by decide +kernel
theorem dX11_setSheet_28 : decode cX11_setSheet 28 = .ok (.aload_n 0, 1) := by decide +kernel
theorem dX11_setSheet_29 : decode cX11_setSheet 29 = .ok (.getfield 81, 3) := by decide +kernel
theorem dX11_setSheet_32 : decode cX11_setSheet 32 = .ok (.invokevirtual 110, 3) := by decide +kernel
theorem dX11_setSheet_35 : decode cX11_setSheet 35 = .ok (.aload_n 0, 1) := by decide +kernel
theorem dX11_setSheet_36 : decode cX11_setSheet 36 = .ok (.getfield 10, 3) := by decide +kernel
theorem dX11_setSheet_39 : decode cX11_setSheet 39 = .ok (.iload_n 1, 1) := by decide +kernel
theorem dX11_setSheet_40 : decode cX11_setSheet 40 = .ok (.iload_n 2, 1) := by decide +kernel
theorem dX11_setSheet_41 : decode cX11_setSheet 41 = .ok (.invokevirtual 114, 3) := by decide +kernel
theorem dX11_setSheet_44 : decode cX11_setSheet 44 = .ok (.ireturn, 1) := by decide +kernel
theorem dX11_setBase_0 : decode cX11_setBase 0 = .ok (.aload_n 0, 1) := by decide +kernel
theorem dX11_setBase_1 : decode cX11_setBase 1 = .ok (.getfield 10, 3) := by decide +kernel
theorem dX11_setBase_4 : decode cX11_setBase 4 = .ok (.iload_n 1, 1) := by decide +kernel
theorem dX11_setBase_5 : decode cX11_setBase 5 = .ok (.iload_n 2, 1) := by decide +kernel
theorem dX11_setBase_6 : decode cX11_setBase 6 = .ok (.iload_n 3, 1) := by decide +kernel
theorem dX11_setBase_7 : decode cX11_setBase 7 = .ok (.iload 4, 2) := by decide +kernel
theorem dX11_setBase_9 : decode cX11_setBase 9 = .ok (.invokevirtual 117, 3) := by decide +kernel
theorem dX11_setBase_12 : decode cX11_setBase 12 = .ok (.istore 5, 2) := by decide +kernel
theorem dX11_setBase_14 : decode cX11_setBase 14 = .ok (.iload 5, 2) := by decide +kernel
theorem dX11_setBase_16 : decode cX11_setBase 16 = .ok (.ifCond .eq 6, 3) := by decide +kernel
theorem dX11_setBase_19 : decode cX11_setBase 19 = .ok (.iload 5, 2) := by decide +kernel
theorem dX11_setBase_21 : decode cX11_setBase 21 = .ok (.ireturn, 1) := by decide +kernel
theorem dX11_setBase_22 : decode cX11_setBase 22 = .ok (.aload_n 0, 1) := by decide +kernel
theorem dX11_setBase_23 : decode cX11_setBase 23 = .ok (.getfield 30, 3) := by decide +kernel
theorem dX11_setBase_26 : decode cX11_setBase 26 = .ok (.aload_n 0, 1) := by decide +kernel
theorem dX11_setBase_27 : decode cX11_setBase 27 = .ok (.getfield 10, 3) := by decide +kernel
theorem dX11_setBase_30 : decode cX11_setBase 30 = .ok (.aload_n 0, 1) := by decide +kernel
theorem dX11_setBase_31 : decode cX11_setBase 31 = .ok (.getfield 77, 3) := by decide +kernel
theorem dX11_setBase_34 : decode cX11_setBase 34 = .ok (.aload_n 0, 1) := by decide +kernel
theorem dX11_setBase_35 : decode cX11_setBase 35 = .ok (.getfield 81, 3) := by decide +kernel
theorem dX11_setBase_38 : decode cX11_setBase 38 = .ok (.invokevirtual 110, 3) := by decide +kernel
theorem dX11_setBase_41 : decode cX11_setBase 41 = .ok (.aload_n 0, 1) := by decide +kernel
theorem dX11_setBase_42 : decode cX11_setBase 42 = .ok (.getfield 10, 3) := by decide +kernel
theorem dX11_setBase_45 : decode cX11_setBase 45 = .ok (.iload_n 1, 1) := by decide +kernel
theorem dX11_setBase_46 : decode cX11_setBase 46 = .ok (.iload_n 2, 1) := by decide +kernel
theorem dX11_setBase_47 : decode cX11_setBase 47 = .ok (.iload_n 3, 1) := by decide +kernel
theorem dX11_setBase_48 : decode cX11_setBase 48 = .ok (.iload 4, 2) := by decide +kernel
theorem dX11_setBase_50 : decode cX11_setBase 50 = .ok (.invokevirtual 121, 3) := by decide +kernel
theorem dX11_setBase_53 : decode cX11_setBase 53 = .ok (.ireturn, 1) := by decide +kernel
theorem dX11_addPanel_0 : decode cX11_addPanel 0 = .ok (.aload_n 0, 1) := by decide +kernel
theorem dX11_addPanel_1 : decode cX11_addPanel 1 = .ok (.getfield 10, 3) := by decide +kernel
theorem dX11_addPanel_4 : decode cX11_addPanel 4 = .ok (.iload_n 1, 1) := by decide +kernel
theorem dX11_addPanel_5 : decode cX11_addPanel 5 = .ok (.iload_n 2, 1) := by decide +kernel
theorem dX11_addPanel_6 : decode cX11_addPanel 6 = .ok (.iload_n 3, 1) := by decide +kernel
theorem dX11_addPanel_7 : decode cX11_addPanel 7 = .ok (.iload 4, 2) := by decide +kernel
theorem dX11_addPanel_9 : decode cX11_addPanel 9 = .ok (.iload 5, 2) := by decide +kernel
theorem dX11_addPanel_11 : decode cX11_addPanel 11 = .ok (.iload 6, 2) := by decide +kernel
theorem dX11_addPanel_13 : decode cX11_addPanel 13 = .ok (.invokevirtual 124, 3) := by decide +kernel
theorem dX11_addPanel_16 : decode cX11_addPanel 16 = .ok (.istore 7, 2) := by decide +kernel
theorem dX11_addPanel_18 : decode cX11_addPanel 18 = .ok (.iload 7, 2) := by decide +kernel
theorem dX11_addPanel_20 : decode cX11_addPanel 20 = .ok (.ifCond .eq 6, 3) := by decide +kernel
theorem dX11_addPanel_23 : decode cX11_addPanel 23 = .ok (.iload 7, 2) := by decide +kernel
theorem dX11_addPanel_25 : decode cX11_addPanel 25 = .ok (.ireturn, 1) := by decide +kernel
theorem dX11_addPanel_26 : decode cX11_addPanel 26 = .ok (.aload_n 0, 1) := by decide +kernel
theorem dX11_addPanel_27 : decode cX11_addPanel 27 = .ok (.getfield 30, 3) := by decide +kernel
theorem dX11_addPanel_30 : decode cX11_addPanel 30 = .ok (.aload_n 0, 1) := by decide +kernel
theorem dX11_addPanel_31 : decode cX11_addPanel 31 = .ok (.getfield 10, 3) := by decide +kernel
theorem dX11_addPanel_34 : decode cX11_addPanel 34 = .ok (.aload_n 0, 1) := by decide +kernel
theorem dX11_addPanel_35 : decode cX11_addPanel 35 = .ok (.getfield 77, 3) := by decide +kernel
theorem dX11_addPanel_38 : decode cX11_addPanel 38 = .ok (.aload_n 0, 1) := by decide +kernel
theorem dX11_addPanel_39 : decode cX11_addPanel 39 = .ok (.getfield 81, 3) := by decide +kernel
theorem dX11_addPanel_42 : decode cX11_addPanel 42 = .ok (.invokevirtual 110, 3) := by decide +kernel
theorem dX11_addPanel_45 : decode cX11_addPanel 45 = .ok (.aload_n 0, 1) := by decide +kernel
theorem dX11_addPanel_46 : decode cX11_addPanel 46 = .ok (.getfield 10, 3) := by decide +kernel
theorem dX11_addPanel_49 : decode cX11_addPanel 49 = .ok (.iload_n 1, 1) := by decide +kernel
theorem dX11_addPanel_50 : decode cX11_addPanel 50 = .ok (.iload_n 2, 1) := by decide +kernel
theorem dX11_addPanel_51 : decode cX11_addPanel 51 = .ok (.iload_n 3, 1) := by decide +kernel
theorem dX11_addPanel_52 : decode cX11_addPanel 52 = .ok (.iload 4, 2) := by decide +kernel
theorem dX11_addPanel_54 : decode cX11_addPanel 54 = .ok (.iload 5, 2) := by decide +kernel
theorem dX11_addPanel_56 : decode cX11_addPanel 56 = .ok (.iload 6, 2) := by decide +kernel
theorem dX11_addPanel_58 : decode cX11_addPanel 58 = .ok (.invokevirtual 128, 3) := by decide +kernel
theorem dX11_addPanel_61 : decode cX11_addPanel 61 = .ok (.ireturn, 1) := by decide +kernel
theorem dX11_removeLast_0 : decode cX11_removeLast 0 = .ok (.aload_n 0, 1) := by decide +kernel
theorem dX11_removeLast_1 : decode cX11_removeLast 1 = .ok (.getfield 10, 3) := by decide +kernel
theorem dX11_removeLast_4 : decode cX11_removeLast 4 = .ok (.invokevirtual 131, 3) := by decide +kernel
theorem dX11_removeLast_7 : decode cX11_removeLast 7 = .ok (.istore_n 1, 1) := by decide +kernel
theorem dX11_removeLast_8 : decode cX11_removeLast 8 = .ok (.iload_n 1, 1) := by decide +kernel
theorem dX11_removeLast_9 : decode cX11_removeLast 9 = .ok (.ifCond .eq 5, 3) := by decide +kernel
theorem dX11_removeLast_12 : decode cX11_removeLast 12 = .ok (.iload_n 1, 1) := by decide +kernel
theorem dX11_removeLast_13 : decode cX11_removeLast 13 = .ok (.ireturn, 1) := by decide +kernel
theorem dX11_removeLast_14 : decode cX11_removeLast 14 = .ok (.aload_n 0, 1) := by decide +kernel
theorem dX11_removeLast_15 : decode cX11_removeLast 15 = .ok (.getfield 30, 3) := by decide +kernel
theorem dX11_removeLast_18 : decode cX11_removeLast 18 = .ok (.aload_n 0, 1) := by decide +kernel
theorem dX11_removeLast_19 : decode cX11_removeLast 19 = .ok (.getfield 10, 3) := by decide +kernel
theorem dX11_removeLast_22 : decode cX11_removeLast 22 = .ok (.aload_n 0, 1) := by decide +kernel
theorem dX11_removeLast_23 : decode cX11_removeLast 23 = .ok (.getfield 77, 3) := by decide +kernel
theorem dX11_removeLast_26 : decode cX11_removeLast 26 = .ok (.aload_n 0, 1) := by decide +kernel
theorem dX11_removeLast_27 : decode cX11_removeLast 27 = .ok (.getfield 81, 3) := by decide +kernel
theorem dX11_removeLast_30 : decode cX11_removeLast 30 = .ok (.invokevirtual 110, 3) := by decide +kernel
theorem dX11_removeLast_33 : decode cX11_removeLast 33 = .ok (.aload_n 0, 1) := by decide +kernel
theorem dX11_removeLast_34 : decode cX11_removeLast 34 = .ok (.getfield 10, 3) := by decide +kernel
theorem dX11_removeLast_37 : decode cX11_removeLast 37 = .ok (.invokevirtual 135, 3) := by decide +kernel
theorem dX11_removeLast_40 : decode cX11_removeLast 40 = .ok (.ireturn, 1) := by decide +kernel
theorem dX11_setAngle_0 : decode cX11_setAngle 0 = .ok (.aload_n 0, 1) := by decide +kernel
theorem dX11_setAngle_1 : decode cX11_setAngle 1 = .ok (.getfield 10, 3) := by decide +kernel
theorem dX11_setAngle_4 : decode cX11_setAngle 4 = .ok (.iload_n 1, 1) := by decide +kernel
theorem dX11_setAngle_5 : decode cX11_setAngle 5 = .ok (.invokevirtual 138, 3) := by decide +kernel
theorem dX11_setAngle_8 : decode cX11_setAngle 8 = .ok (.ifCond .eq 10, 3) := by decide +kernel
theorem dX11_setAngle_11 : decode cX11_setAngle 11 = .ok (.iload_n 2, 1) := by decide +kernel
theorem dX11_setAngle_12 : decode cX11_setAngle 12 = .ok (.invokestatic 142, 3) := by decide +kernel
theorem dX11_setAngle_15 : decode cX11_setAngle 15 = .ok (.ifCond .ne 5, 3) := by decide +kernel
theorem dX11_setAngle_18 : decode cX11_setAngle 18 = .ok (.iconst (-1), 1) := by decide +kernel
theorem dX11_setAngle_19 : decode cX11_setAngle 19 = .ok (.ireturn, 1) := by decide +kernel
theorem dX11_setAngle_20 : decode cX11_setAngle 20 = .ok (.aload_n 0, 1) := by decide +kernel
theorem dX11_setAngle_21 : decode cX11_setAngle 21 = .ok (.getfield 30, 3) := by decide +kernel
theorem dX11_setAngle_24 : decode cX11_setAngle 24 = .ok (.aload_n 0, 1) := by decide +kernel
theorem dX11_setAngle_25 : decode cX11_setAngle 25 = .ok (.getfield 10, 3) := by decide +kernel
theorem dX11_setAngle_28 : decode cX11_setAngle 28 = .ok (.aload_n 0, 1) := by decide +kernel
theorem dX11_setAngle_29 : decode cX11_setAngle 29 = .ok (.getfield 77, 3) := by decide +kernel
theorem dX11_setAngle_32 : decode cX11_setAngle 32 = .ok (.aload_n 0, 1) := by decide +kernel
theorem dX11_setAngle_33 : decode cX11_setAngle 33 = .ok (.getfield 81, 3) := by decide +kernel
theorem dX11_setAngle_36 : decode cX11_setAngle 36 = .ok (.invokevirtual 110, 3) := by decide +kernel
theorem dX11_setAngle_39 : decode cX11_setAngle 39 = .ok (.aload_n 0, 1) := by decide +kernel
theorem dX11_setAngle_40 : decode cX11_setAngle 40 = .ok (.getfield 10, 3) := by decide +kernel
theorem dX11_setAngle_43 : decode cX11_setAngle 43 = .ok (.iload_n 1, 1) := by decide +kernel
theorem dX11_setAngle_44 : decode cX11_setAngle 44 = .ok (.iload_n 2, 1) := by decide +kernel
theorem dX11_setAngle_45 : decode cX11_setAngle 45 = .ok (.invokevirtual 145, 3) := by decide +kernel
theorem dX11_setAngle_48 : decode cX11_setAngle 48 = .ok (.ireturn, 1) := by decide +kernel
theorem dX11_setSize_0 : decode cX11_setSize 0 = .ok (.aload_n 0, 1) := by decide +kernel
theorem dX11_setSize_1 : decode cX11_setSize 1 = .ok (.getfield 10, 3) := by decide +kernel
theorem dX11_setSize_4 : decode cX11_setSize 4 = .ok (.iload_n 1, 1) := by decide +kernel
theorem dX11_setSize_5 : decode cX11_setSize 5 = .ok (.iload_n 2, 1) := by decide +kernel
theorem dX11_setSize_6 : decode cX11_setSize 6 = .ok (.iload_n 3, 1) := by decide +kernel
theorem dX11_setSize_7 : decode cX11_setSize 7 = .ok (.invokevirtual 148, 3) := by decide +kernel
theorem dX11_setSize_10 : decode cX11_setSize 10 = .ok (.istore 4, 2) := by decide +kernel
theorem dX11_setSize_12 : decode cX11_setSize 12 = .ok (.iload 4, 2) := by decide +kernel
theorem dX11_setSize_14 : decode cX11_setSize 14 = .ok (.ifCond .eq 6, 3) := by decide +kernel
theorem dX11_setSize_17 : decode cX11_setSize 17 = .ok (.iload 4, 2) := by decide +kernel
theorem dX11_setSize_19 : decode cX11_setSize 19 = .ok (.ireturn, 1) := by decide +kernel
theorem dX11_setSize_20 : decode cX11_setSize 20 = .ok (.aload_n 0, 1) := by decide +kernel
theorem dX11_setSize_21 : decode cX11_setSize 21 = .ok (.getfield 30, 3) := by decide +kernel
theorem dX11_setSize_24 : decode cX11_setSize 24 = .ok (.aload_n 0, 1) := by decide +kernel
theorem dX11_setSize_25 : decode cX11_setSize 25 = .ok (.getfield 10, 3) := by decide +kernel
theorem dX11_setSize_28 : decode cX11_setSize 28 = .ok (.aload_n 0, 1) := by decide +kernel
theorem dX11_setSize_29 : decode cX11_setSize 29 = .ok (.getfield 77, 3) := by decide +kernel
theorem dX11_setSize_32 : decode cX11_setSize 32 = .ok (.aload_n 0, 1) := by decide +kernel
theorem dX11_setSize_33 : decode cX11_setSize 33 = .ok (.getfield 81, 3) := by decide +kernel
theorem dX11_setSize_36 : decode cX11_setSize 36 = .ok (.invokevirtual 110, 3) := by decide +kernel
theorem dX11_setSize_39 : decode cX11_setSize 39 = .ok (.aload_n 0, 1) := by decide +kernel
theorem dX11_setSize_40 : decode cX11_setSize 40 = .ok (.getfield 10, 3) := by decide +kernel
theorem dX11_setSize_43 : decode cX11_setSize 43 = .ok (.iload_n 1, 1) := by decide +kernel
theorem dX11_setSize_44 : decode cX11_setSize 44 = .ok (.iload_n 2, 1) := by decide +kernel
theorem dX11_setSize_45 : decode cX11_setSize 45 = .ok (.iload_n 3, 1) := by decide +kernel
theorem dX11_setSize_46 : decode cX11_setSize 46 = .ok (.invokevirtual 152, 3) := by decide +kernel
theorem dX11_setSize_49 : decode cX11_setSize 49 = .ok (.ireturn, 1) := by decide +kernel
theorem dX11_setFlap_0 : decode cX11_setFlap 0 = .ok (.aload_n 0, 1) := by decide +kernel
theorem dX11_setFlap_1 : decode cX11_setFlap 1 = .ok (.getfield 10, 3) := by decide +kernel
theorem dX11_setFlap_4 : decode cX11_setFlap 4 = .ok (.iload_n 1, 1) := by decide +kernel
theorem dX11_setFlap_5 : decode cX11_setFlap 5 = .ok (.iload_n 2, 1) := by decide +kernel
theorem dX11_setFlap_6 : decode cX11_setFlap 6 = .ok (.invokevirtual 155, 3) := by decide +kernel
theorem dX11_setFlap_9 : decode cX11_setFlap 9 = .ok (.istore_n 3, 1) := by decide +kernel
theorem dX11_setFlap_10 : decode cX11_setFlap 10 = .ok (.iload_n 3, 1) := by decide +kernel
theorem dX11_setFlap_11 : decode cX11_setFlap 11 = .ok (.ifCond .eq 5, 3) := by decide +kernel
theorem dX11_setFlap_14 : decode cX11_setFlap 14 = .ok (.iload_n 3, 1) := by decide +kernel
theorem dX11_setFlap_15 : decode cX11_setFlap 15 = .ok (.ireturn, 1) := by decide +kernel
theorem dX11_setFlap_16 : decode cX11_setFlap 16 = .ok (.aload_n 0, 1) := by decide +kernel
theorem dX11_setFlap_17 : decode cX11_setFlap 17 = .ok (.getfield 30, 3) := by decide +kernel
theorem dX11_setFlap_20 : decode cX11_setFlap 20 = .ok (.aload_n 0, 1) := by decide +kernel
theorem dX11_setFlap_21 : decode cX11_setFlap 21 = .ok (.getfield 10, 3) := by decide +kernel
theorem dX11_setFlap_24 : decode cX11_setFlap 24 = .ok (.aload_n 0, 1) := by decide +kernel
theorem dX11_setFlap_25 : decode cX11_setFlap 25 = .ok (.getfield 77, 3) := by decide +kernel
theorem dX11_setFlap_28 : decode cX11_setFlap 28 = .ok (.aload_n 0, 1) := by decide +kernel
theorem dX11_setFlap_29 : decode cX11_setFlap 29 = .ok (.getfield 81, 3) := by decide +kernel
theorem dX11_setFlap_32 : decode cX11_setFlap 32 = .ok (.invokevirtual 110, 3) := by decide +kernel
theorem dX11_setFlap_35 : decode cX11_setFlap 35 = .ok (.aload_n 0, 1) := by decide +kernel
theorem dX11_setFlap_36 : decode cX11_setFlap 36 = .ok (.getfield 10, 3) := by decide +kernel
theorem dX11_setFlap_39 : decode cX11_setFlap 39 = .ok (.iload_n 1, 1) := by decide +kernel
theorem dX11_setFlap_40 : decode cX11_setFlap 40 = .ok (.iload_n 2, 1) := by decide +kernel
theorem dX11_setFlap_41 : decode cX11_setFlap 41 = .ok (.invokevirtual 158, 3) := by decide +kernel
theorem dX11_setFlap_44 : decode cX11_setFlap 44 = .ok (.ireturn, 1) := by decide +kernel
theorem dX11_defineImage_0 : decode cX11_defineImage 0 = .ok (.aload_n 0, 1) := by decide +kernel
theorem dX11_defineImage_1 : decode cX11_defineImage 1 = .ok (.getfield 10, 3) := by decide +kernel
theorem dX11_defineImage_4 : decode cX11_defineImage 4 = .ok (.iload_n 1, 1) := by decide +kernel
theorem dX11_defineImage_5 : decode cX11_defineImage 5 = .ok (.iload_n 2, 1) := by decide +kernel
theorem dX11_defineImage_6 : decode cX11_defineImage 6 = .ok (.iload_n 3, 1) := by decide +kernel
theorem dX11_defineImage_7 : decode cX11_defineImage 7 = .ok (.invokevirtual 161, 3) := by decide +kernel
theorem dX11_defineImage_10 : decode cX11_defineImage 10 = .ok (.istore 4, 2) := by decide +kernel
theorem dX11_defineImage_12 : decode cX11_defineImage 12 = .ok (.iload 4, 2) := by decide +kernel
theorem dX11_defineImage_14 : decode cX11_defineImage 14 = .ok (.ifCond .eq 6, 3) := by decide +kernel
theorem dX11_defineImage_17 : decode cX11_defineImage 17 = .ok (.iload 4, 2) := by decide +kernel
theorem dX11_defineImage_19 : decode cX11_defineImage 19 = .ok (.ireturn, 1) := by decide +kernel
theorem dX11_defineImage_20 : decode cX11_defineImage 20 = .ok (.aload_n 0, 1) := by decide +kernel
theorem dX11_defineImage_21 : decode cX11_defineImage 21 = .ok (.getfield 30, 3) := by decide +kernel
theorem dX11_defineImage_24 : decode cX11_defineImage 24 = .ok (.aload_n 0, 1) := by decide +kernel
theorem dX11_defineImage_25 : decode cX11_defineImage 25 = .ok (.getfield 10, 3) := by decide +kernel
theorem dX11_defineImage_28 : decode cX11_defineImage 28 = .ok (.aload_n 0, 1) := by decide +kernel
theorem dX11_defineImage_29 : decode cX11_defineImage 29 = .ok (.getfield 77, 3) := by decide +kernel
theorem dX11_defineImage_32 : decode cX11_defineImage 32 = .ok (.aload_n 0, 1) := by decide +kernel
theorem dX11_defineImage_33 : decode cX11_defineImage 33 = .ok (.getfield 81, 3) := by decide +kernel
theorem dX11_defineImage_36 : decode cX11_defineImage 36 = .ok (.invokevirtual 110, 3) := by decide +kernel
theorem dX11_defineImage_39 : decode cX11_defineImage 39 = .ok (.aload_n 0, 1) := by decide +kernel
theorem dX11_defineImage_40 : decode cX11_defineImage 40 = .ok (.getfield 10, 3) := by decide +kernel
theorem dX11_defineImage_43 : decode cX11_defineImage 43 = .ok (.iload_n 1, 1) := by decide +kernel
theorem dX11_defineImage_44 : decode cX11_defineImage 44 = .ok (.iload_n 2, 1) := by decide +kernel
theorem dX11_defineImage_45 : decode cX11_defineImage 45 = .ok (.iload_n 3, 1) := by decide +kernel
theorem dX11_defineImage_46 : decode cX11_defineImage 46 = .ok (.invokevirtual 164, 3) := by decide +kernel
theorem dX11_defineImage_49 : decode cX11_defineImage 49 = .ok (.ireturn, 1) := by decide +kernel
theorem dX11_place_0 : decode cX11_place 0 = .ok (.aload_n 0, 1) := by decide +kernel
theorem dX11_place_1 : decode cX11_place 1 = .ok (.getfield 10, 3) := by decide +kernel
theorem dX11_place_4 : decode cX11_place 4 = .ok (.iload_n 1, 1) := by decide +kernel
theorem dX11_place_5 : decode cX11_place 5 = .ok (.iload_n 2, 1) := by decide +kernel
theorem dX11_place_6 : decode cX11_place 6 = .ok (.iload_n 3, 1) := by decide +kernel
theorem dX11_place_7 : decode cX11_place 7 = .ok (.iload 4, 2) := by decide +kernel
theorem dX11_place_9 : decode cX11_place 9 = .ok (.iload 5, 2) := by decide +kernel
theorem dX11_place_11 : decode cX11_place 11 = .ok (.invokevirtual 167, 3) := by decide +kernel
theorem dX11_place_14 : decode cX11_place 14 = .ok (.istore 6, 2) := by decide +kernel
theorem dX11_place_16 : decode cX11_place 16 = .ok (.iload 6, 2) := by decide +kernel
theorem dX11_place_18 : decode cX11_place 18 = .ok (.ifCond .eq 6, 3) := by decide +kernel
theorem dX11_place_21 : decode cX11_place 21 = .ok (.iload 6, 2) := by decide +kernel
theorem dX11_place_23 : decode cX11_place 23 = .ok (.ireturn, 1) := by decide +kernel
theorem dX11_place_24 : decode cX11_place 24 = .ok (.aload_n 0, 1) := by decide +kernel
theorem dX11_place_25 : decode cX11_place 25 = .ok (.getfield 30, 3) := by decide +kernel
theorem dX11_place_28 : decode cX11_place 28 = .ok (.aload_n 0, 1) := by decide +kernel
theorem dX11_place_29 : decode cX11_place 29 = .ok (.getfield 10, 3) := by decide +kernel
theorem dX11_place_32 : decode cX11_place 32 = .ok (.aload_n 0, 1) := by decide +kernel
theorem dX11_place_33 : decode cX11_place 33 = .ok (.getfield 77, 3) := by decide +kernel
theorem dX11_place_36 : decode cX11_place 36 = .ok (.aload_n 0, 1) := by decide +kernel
theorem dX11_place_37 : decode cX11_place 37 = .ok (.getfield 81, 3) := by decide +kernel
theorem dX11_place_40 : decode cX11_place 40 = .ok (.invokevirtual 110, 3) := by decide +kernel
theorem dX11_place_43 : decode cX11_place 43 = .ok (.aload_n 0, 1) := by decide +kernel
theorem dX11_place_44 : decode cX11_place 44 = .ok (.getfield 10, 3) := by decide +kernel
theorem dX11_place_47 : decode cX11_place 47 = .ok (.iload_n 1, 1) := by decide +kernel
theorem dX11_place_48 : decode cX11_place 48 = .ok (.iload_n 2, 1) := by decide +kernel
theorem dX11_place_49 : decode cX11_place 49 = .ok (.iload_n 3, 1) := by decide +kernel
theorem dX11_place_50 : decode cX11_place 50 = .ok (.iload 4, 2) := by decide +kernel
theorem dX11_place_52 : decode cX11_place 52 = .ok (.iload 5, 2) := by decide +kernel
theorem dX11_place_54 : decode cX11_place 54 = .ok (.invokevirtual 171, 3) := by decide +kernel
theorem dX11_place_57 : decode cX11_place 57 = .ok (.ireturn, 1) := by decide +kernel
theorem dX11_clearImage_0 : decode cX11_clearImage 0 = .ok (.aload_n 0, 1) := by decide +kernel
theorem dX11_clearImage_1 : decode cX11_clearImage 1 = .ok (.getfield 10, 3) := by decide +kernel
theorem dX11_clearImage_4 : decode cX11_clearImage 4 = .ok (.iload_n 1, 1) := by decide +kernel
theorem dX11_clearImage_5 : decode cX11_clearImage 5 = .ok (.invokevirtual 174, 3) := by decide +kernel
theorem dX11_clearImage_8 : decode cX11_clearImage 8 = .ok (.istore_n 2, 1) := by decide +kernel
theorem dX11_clearImage_9 : decode cX11_clearImage 9 = .ok (.iload_n 2, 1) := by decide +kernel
theorem dX11_clearImage_10 : decode cX11_clearImage 10 = .ok (.ifCond .eq 5, 3) := by decide +kernel
theorem dX11_clearImage_13 : decode cX11_clearImage 13 = .ok (.iload_n 2, 1) := by decide +kernel
theorem dX11_clearImage_14 : decode cX11_clearImage 14 = .ok (.ireturn, 1) := by decide +kernel
theorem dX11_clearImage_15 : decode cX11_clearImage 15 = .ok (.aload_n 0, 1) := by decide +kernel
theorem dX11_clearImage_16 : decode cX11_clearImage 16 = .ok (.getfield 30, 3) := by decide +kernel
theorem dX11_clearImage_19 : decode cX11_clearImage 19 = .ok (.aload_n 0, 1) := by decide +kernel
theorem dX11_clearImage_20 : decode cX11_clearImage 20 = .ok (.getfield 10, 3) := by decide +kernel
theorem dX11_clearImage_23 : decode cX11_clearImage 23 = .ok (.aload_n 0, 1) := by decide +kernel
theorem dX11_clearImage_24 : decode cX11_clearImage 24 = .ok (.getfield 77, 3) := by decide +kernel
theorem dX11_clearImage_27 : decode cX11_clearImage 27 = .ok (.aload_n 0, 1) := by decide +kernel
theorem dX11_clearImage_28 : decode cX11_clearImage 28 = .ok (.getfield 81, 3) := by decide +kernel
theorem dX11_clearImage_31 : decode cX11_clearImage 31 = .ok (.invokevirtual 110, 3) := by decide +kernel
theorem dX11_clearImage_34 : decode cX11_clearImage 34 = .ok (.aload_n 0, 1) := by decide +kernel
theorem dX11_clearImage_35 : decode cX11_clearImage 35 = .ok (.getfield 10, 3) := by decide +kernel
theorem dX11_clearImage_38 : decode cX11_clearImage 38 = .ok (.iload_n 1, 1) := by decide +kernel
theorem dX11_clearImage_39 : decode cX11_clearImage 39 = .ok (.invokevirtual 178, 3) := by decide +kernel
theorem dX11_clearImage_42 : decode cX11_clearImage 42 = .ok (.ireturn, 1) := by decide +kernel
theorem dX11_continueImage_0 : decode cX11_continueImage 0 = .ok (.aload_n 0, 1) := by decide +kernel
theorem dX11_continueImage_1 : decode cX11_continueImage 1 = .ok (.invokevirtual 181, 3) := by decide +kernel
theorem dX11_continueImage_4 : decode cX11_continueImage 4 = .ok (.aload_n 0, 1) := by decide +kernel
theorem dX11_continueImage_5 : decode cX11_continueImage 5 = .ok (.getfield 68, 3) := by decide +kernel
theorem dX11_continueImage_8 : decode cX11_continueImage 8 = .ok (.iload_n 1, 1) := by decide +kernel
theorem dX11_continueImage_9 : decode cX11_continueImage 9 = .ok (.invokevirtual 184, 3) := by decide +kernel
theorem dX11_continueImage_12 : decode cX11_continueImage 12 = .ok (.ifCond .ne 5, 3) := by decide +kernel
theorem dX11_continueImage_15 : decode cX11_continueImage 15 = .ok (.iconst (-1), 1) := by decide +kernel
theorem dX11_continueImage_16 : decode cX11_continueImage 16 = .ok (.ireturn, 1) := by decide +kernel
theorem dX11_continueImage_17 : decode cX11_continueImage 17 = .ok (.aload_n 0, 1) := by decide +kernel
theorem dX11_continueImage_18 : decode cX11_continueImage 18 = .ok (.getfield 63, 3) := by decide +kernel
theorem dX11_continueImage_21 : decode cX11_continueImage 21 = .ok (.aload_n 0, 1) := by decide +kernel
theorem dX11_continueImage_22 : decode cX11_continueImage 22 = .ok (.getfield 10, 3) := by decide +kernel
theorem dX11_continueImage_25 : decode cX11_continueImage 25 = .ok (.iload_n 1, 1) := by decide +kernel
theorem dX11_continueImage_26 : decode cX11_continueImage 26 = .ok (.iload_n 2, 1) := by decide +kernel
theorem dX11_continueImage_27 : decode cX11_continueImage 27 = .ok (.invokevirtual 189, 3) := by decide +kernel
theorem dX11_continueImage_30 : decode cX11_continueImage 30 = .ok (.ifCond .ne 6, 3) := by decide +kernel
theorem dX11_continueImage_33 : decode cX11_continueImage 33 = .ok (.bipush (-2), 2) := by decide +kernel
theorem dX11_continueImage_35 : decode cX11_continueImage 35 = .ok (.ireturn, 1) := by decide +kernel
theorem dX11_continueImage_36 : decode cX11_continueImage 36 = .ok (.aload_n 0, 1) := by decide +kernel
theorem dX11_continueImage_37 : decode cX11_continueImage 37 = .ok (.getfield 30, 3) := by decide +kernel
theorem dX11_continueImage_40 : decode cX11_continueImage 40 = .ok (.aload_n 0, 1) := by decide +kernel
theorem dX11_continueImage_41 : decode cX11_continueImage 41 = .ok (.getfield 10, 3) := by decide +kernel
theorem dX11_continueImage_44 : decode cX11_continueImage 44 = .ok (.aload_n 0, 1) := by decide +kernel
theorem dX11_continueImage_45 : decode cX11_continueImage 45 = .ok (.getfield 77, 3) := by decide +kernel
theorem dX11_continueImage_48 : decode cX11_continueImage 48 = .ok (.aload_n 0, 1) := by decide +kernel
theorem dX11_continueImage_49 : decode cX11_continueImage 49 = .ok (.getfield 81, 3) := by decide +kernel
theorem dX11_continueImage_52 : decode cX11_continueImage 52 = .ok (.invokevirtual 110, 3) := by decide +kernel
theorem dX11_continueImage_55 : decode cX11_continueImage 55 = .ok (.aload_n 0, 1) := by decide +kernel
theorem dX11_continueImage_56 : decode cX11_continueImage 56 = .ok (.getfield 63, 3) := by decide +kernel
theorem dX11_continueImage_59 : decode cX11_continueImage 59 = .ok (.aload_n 0, 1) := by decide +kernel
theorem dX11_continueImage_60 : decode cX11_continueImage 60 = .ok (.getfield 10, 3) := by decide +kernel
theorem dX11_continueImage_63 : decode cX11_continueImage 63 = .ok (.invokevirtual 195, 3) := by decide +kernel
theorem dX11_continueImage_66 : decode cX11_continueImage 66 = .ok (.aload_n 0, 1) := by decide +kernel
theorem dX11_continueImage_67 : decode cX11_continueImage 67 = .ok (.getfield 63, 3) := by decide +kernel
theorem dX11_continueImage_70 : decode cX11_continueImage 70 = .ok (.getfield 198, 3) := by decide +kernel
theorem dX11_continueImage_73 : decode cX11_continueImage 73 = .ok (.ireturn, 1) := by decide +kernel
theorem dX11_spreadImage_0 : decode cX11_spreadImage 0 = .ok (.aload_n 0, 1) := by decide +kernel
theorem dX11_spreadImage_1 : decode cX11_spreadImage 1 = .ok (.getfield 10, 3) := by decide +kernel
theorem dX11_spreadImage_4 : decode cX11_spreadImage 4 = .ok (.iload_n 1, 1) := by decide +kernel
theorem dX11_spreadImage_5 : decode cX11_spreadImage 5 = .ok (.invokevirtual 174, 3) := by decide +kernel
theorem dX11_spreadImage_8 : decode cX11_spreadImage 8 = .ok (.istore_n 2, 1) := by decide +kernel
theorem dX11_spreadImage_9 : decode cX11_spreadImage 9 = .ok (.iload_n 2, 1) := by decide +kernel
theorem dX11_spreadImage_10 : decode cX11_spreadImage 10 = .ok (.ifCond .eq 5, 3) := by decide +kernel
theorem dX11_spreadImage_13 : decode cX11_spreadImage 13 = .ok (.iload_n 2, 1) := by decide +kernel
theorem dX11_spreadImage_14 : decode cX11_spreadImage 14 = .ok (.ireturn, 1) := by decide +kernel
theorem dX11_spreadImage_15 : decode cX11_spreadImage 15 = .ok (.aload_n 0, 1) := by decide +kernel
theorem dX11_spreadImage_16 : decode cX11_spreadImage 16 = .ok (.invokevirtual 181, 3) := by decide +kernel
theorem dX11_spreadImage_19 : decode cX11_spreadImage 19 = .ok (.aload_n 0, 1) := by decide +kernel
theorem dX11_spreadImage_20 : decode cX11_spreadImage 20 = .ok (.getfield 30, 3) := by decide +kernel
theorem dX11_spreadImage_23 : decode cX11_spreadImage 23 = .ok (.aload_n 0, 1) := by decide +kernel
theorem dX11_spreadImage_24 : decode cX11_spreadImage 24 = .ok (.getfield 10, 3) := by decide +kernel
theorem dX11_spreadImage_27 : decode cX11_spreadImage 27 = .ok (.aload_n 0, 1) := by decide +kernel
theorem dX11_spreadImage_28 : decode cX11_spreadImage 28 = .ok (.getfield 77, 3) := by decide +kernel
theorem dX11_spreadImage_31 : decode cX11_spreadImage 31 = .ok (.aload_n 0, 1) := by decide +kernel
theorem dX11_spreadImage_32 : decode cX11_spreadImage 32 = .ok (.getfield 81, 3) := by decide +kernel
theorem dX11_spreadImage_35 : decode cX11_spreadImage 35 = .ok (.invokevirtual 110, 3) := by decide +kernel
theorem dX11_spreadImage_38 : decode cX11_spreadImage 38 = .ok (.aload_n 0, 1) := by decide +kernel
theorem dX11_spreadImage_39 : decode cX11_spreadImage 39 = .ok (.getfield 63, 3) := by decide +kernel
theorem dX11_spreadImage_42 : decode cX11_spreadImage 42 = .ok (.aload_n 0, 1) := by decide +kernel
theorem dX11_spreadImage_43 : decode cX11_spreadImage 43 = .ok (.getfield 10, 3) := by decide +kernel
theorem dX11_spreadImage_46 : decode cX11_spreadImage 46 = .ok (.aload_n 0, 1) := by decide +kernel
theorem dX11_spreadImage_47 : decode cX11_spreadImage 47 = .ok (.getfield 10, 3) := by decide +kernel
theorem dX11_spreadImage_50 : decode cX11_spreadImage 50 = .ok (.iload_n 1, 1) := by decide +kernel
theorem dX11_spreadImage_51 : decode cX11_spreadImage 51 = .ok (.invokevirtual 201, 3) := by decide +kernel
theorem dX11_spreadImage_54 : decode cX11_spreadImage 54 = .ok (.getfield 205, 3) := by decide +kernel
theorem dX11_spreadImage_57 : decode cX11_spreadImage 57 = .ok (.invokevirtual 210, 3) := by decide +kernel
theorem dX11_spreadImage_60 : decode cX11_spreadImage 60 = .ok (.ireturn, 1) := by decide +kernel
theorem dX11_setLimit_0 : decode cX11_setLimit 0 = .ok (.iload_n 1, 1) := by decide +kernel
theorem dX11_setLimit_1 : decode cX11_setLimit 1 = .ok (.ifCond .lt 12, 3) := by decide +kernel
theorem dX11_setLimit_4 : decode cX11_setLimit 4 = .ok (.iload_n 1, 1) := by decide +kernel
theorem dX11_setLimit_5 : decode cX11_setLimit 5 = .ok (.iconst 4, 1) := by decide +kernel
theorem dX11_setLimit_6 : decode cX11_setLimit 6 = .ok (.if_icmp .ge 7, 3) := by decide +kernel
theorem dX11_setLimit_9 : decode cX11_setLimit 9 = .ok (.iload_n 2, 1) := by decide +kernel
theorem dX11_setLimit_10 : decode cX11_setLimit 10 = .ok (.ifCond .ge 5, 3) := by decide +kernel
theorem dX11_setLimit_13 : decode cX11_setLimit 13 = .ok (.iconst (-1), 1) := by decide +kernel
theorem dX11_setLimit_14 : decode cX11_setLimit 14 = .ok (.ireturn, 1) := by decide +kernel
theorem dX11_setLimit_15 : decode cX11_setLimit 15 = .ok (.iload_n 2, 1) := by decide +kernel
theorem dX11_setLimit_16 : decode cX11_setLimit 16 = .ok (.iload_n 1, 1) := by decide +kernel
theorem dX11_setLimit_17 : decode cX11_setLimit 17 = .ok (.iconst 3, 1) := by decide +kernel
theorem dX11_setLimit_18 : decode cX11_setLimit 18 = .ok (.if_icmp .ne 8, 3) := by decide +kernel
theorem dX11_setLimit_21 : decode cX11_setLimit 21 = .ok (.bipush 100, 2) := by decide +kernel
theorem dX11_setLimit_23 : decode cX11_setLimit 23 = .ok (.goto 5, 3) := by decide +kernel
theorem dX11_setLimit_26 : decode cX11_setLimit 26 = .ok (.bipush 20, 2) := by decide +kernel
theorem dX11_setLimit_28 : decode cX11_setLimit 28 = .ok (.if_icmp .le 5, 3) := by decide +kernel
theorem dX11_setLimit_31 : decode cX11_setLimit 31 = .ok (.iconst (-1), 1) := by decide +kernel
theorem dX11_setLimit_32 : decode cX11_setLimit 32 = .ok (.ireturn, 1) := by decide +kernel
theorem dX11_setLimit_33 : decode cX11_setLimit 33 = .ok (.aload_n 0, 1) := by decide +kernel
theorem dX11_setLimit_34 : decode cX11_setLimit 34 = .ok (.getfield 30, 3) := by decide +kernel
theorem dX11_setLimit_37 : decode cX11_setLimit 37 = .ok (.aload_n 0, 1) := by decide +kernel
theorem dX11_setLimit_38 : decode cX11_setLimit 38 = .ok (.getfield 10, 3) := by decide +kernel
theorem dX11_setLimit_41 : decode cX11_setLimit 41 = .ok (.aload_n 0, 1) := by decide +kernel
theorem dX11_setLimit_42 : decode cX11_setLimit 42 = .ok (.getfield 77, 3) := by decide +kernel
theorem dX11_setLimit_45 : decode cX11_setLimit 45 = .ok (.aload_n 0, 1) := by decide +kernel
theorem dX11_setLimit_46 : decode cX11_setLimit 46 = .ok (.getfield 81, 3) := by decide +kernel
theorem dX11_setLimit_49 : decode cX11_setLimit 49 = .ok (.invokevirtual 110, 3) := by decide +kernel
theorem dX11_setLimit_52 : decode cX11_setLimit 52 = .ok (.aload_n 0, 1) := by decide +kernel
theorem dX11_setLimit_53 : decode cX11_setLimit 53 = .ok (.getfield 77, 3) := by decide +kernel
theorem dX11_setLimit_56 : decode cX11_setLimit 56 = .ok (.iload_n 1, 1) := by decide +kernel
theorem dX11_setLimit_57 : decode cX11_setLimit 57 = .ok (.iaload, 1) := by decide +kernel
theorem dX11_setLimit_58 : decode cX11_setLimit 58 = .ok (.istore_n 3, 1) := by decide +kernel
theorem dX11_setLimit_59 : decode cX11_setLimit 59 = .ok (.aload_n 0, 1) := by decide +kernel
theorem dX11_setLimit_60 : decode cX11_setLimit 60 = .ok (.getfield 77, 3) := by decide +kernel
theorem dX11_setLimit_63 : decode cX11_setLimit 63 = .ok (.iload_n 1, 1) := by decide +kernel
theorem dX11_setLimit_64 : decode cX11_setLimit 64 = .ok (.iload_n 2, 1) := by decide +kernel
theorem dX11_setLimit_65 : decode cX11_setLimit 65 = .ok (.iastore, 1) := by decide +kernel
theorem dX11_setLimit_66 : decode cX11_setLimit 66 = .ok (.iload_n 3, 1) := by decide +kernel
theorem dX11_setLimit_67 : decode cX11_setLimit 67 = .ok (.ireturn, 1) := by decide +kernel
theorem dX11_setWeight_0 : decode cX11_setWeight 0 = .ok (.iload_n 1, 1) := by decide +kernel
theorem dX11_setWeight_1 : decode cX11_setWeight 1 = .ok (.ifCond .lt 19, 3) := by decide +kernel
theorem dX11_setWeight_4 : decode cX11_setWeight 4 = .ok (.iload_n 1, 1) := by decide +kernel
theorem dX11_setWeight_5 : decode cX11_setWeight 5 = .ok (.bipush 8, 2) := by decide +kernel
theorem dX11_setWeight_7 : decode cX11_setWeight 7 = .ok (.if_icmp .ge 13, 3) := by decide +kernel
theorem dX11_setWeight_10 : decode cX11_setWeight 10 = .ok (.iload_n 2, 1) := by decide +kernel
theorem dX11_setWeight_11 : decode cX11_setWeight 11 = .ok (.ifCond .lt 9, 3) := by decide +kernel
theorem dX11_setWeight_14 : decode cX11_setWeight 14 = .ok (.iload_n 2, 1) := by decide +kernel
theorem dX11_setWeight_15 : decode cX11_setWeight 15 = .ok (.bipush 9, 2) := by decide +kernel
theorem dX11_setWeight_17 : decode cX11_setWeight 17 = .ok (.if_icmp .le 5, 3) := by decide +kernel
theorem dX11_setWeight_20 : decode cX11_setWeight 20 = .ok (.iconst (-1), 1) := by decide +kernel
theorem dX11_setWeight_21 : decode cX11_setWeight 21 = .ok (.ireturn, 1) := by decide +kernel
theorem dX11_setWeight_22 : decode cX11_setWeight 22 = .ok (.aload_n 0, 1) := by decide +kernel
theorem dX11_setWeight_23 : decode cX11_setWeight 23 = .ok (.getfield 30, 3) := by decide +kernel
theorem dX11_setWeight_26 : decode cX11_setWeight 26 = .ok (.aload_n 0, 1) := by decide +kernel
theorem dX11_setWeight_27 : decode cX11_setWeight 27 = .ok (.getfield 10, 3) := by decide +kernel
theorem dX11_setWeight_30 : decode cX11_setWeight 30 = .ok (.aload_n 0, 1) := by decide +kernel
theorem dX11_setWeight_31 : decode cX11_setWeight 31 = .ok (.getfield 77, 3) := by decide +kernel
theorem dX11_setWeight_34 : decode cX11_setWeight 34 = .ok (.aload_n 0, 1) := by decide +kernel
theorem dX11_setWeight_35 : decode cX11_setWeight 35 = .ok (.getfield 81, 3) := by decide +kernel
theorem dX11_setWeight_38 : decode cX11_setWeight 38 = .ok (.invokevirtual 110, 3) := by decide +kernel
theorem dX11_setWeight_41 : decode cX11_setWeight 41 = .ok (.aload_n 0, 1) := by decide +kernel
theorem dX11_setWeight_42 : decode cX11_setWeight 42 = .ok (.getfield 81, 3) := by decide +kernel
theorem dX11_setWeight_45 : decode cX11_setWeight 45 = .ok (.iload_n 1, 1) := by decide +kernel
theorem dX11_setWeight_46 : decode cX11_setWeight 46 = .ok (.iaload, 1) := by decide +kernel
theorem dX11_setWeight_47 : decode cX11_setWeight 47 = .ok (.istore_n 3, 1) := by decide +kernel
theorem dX11_setWeight_48 : decode cX11_setWeight 48 = .ok (.aload_n 0, 1) := by decide +kernel
theorem dX11_setWeight_49 : decode cX11_setWeight 49 = .ok (.getfield 81, 3) := by decide +kernel
theorem dX11_setWeight_52 : decode cX11_setWeight 52 = .ok (.iload_n 1, 1) := by decide +kernel
theorem dX11_setWeight_53 : decode cX11_setWeight 53 = .ok (.iload_n 2, 1) := by decide +kernel
theorem dX11_setWeight_54 : decode cX11_setWeight 54 = .ok (.iastore, 1) := by decide +kernel
theorem dX11_setWeight_55 : decode cX11_setWeight 55 = .ok (.iload_n 3, 1) := by decide +kernel
theorem dX11_setWeight_56 : decode cX11_setWeight 56 = .ok (.ireturn, 1) := by decide +kernel
theorem dX11_undo_0 : decode cX11_undo 0 = .ok (.aload_n 0, 1) := by decide +kernel
theorem dX11_undo_1 : decode cX11_undo 1 = .ok (.getfield 30, 3) := by decide +kernel
theorem dX11_undo_4 : decode cX11_undo 4 = .ok (.getfield 214, 3) := by decide +kernel
theorem dX11_undo_7 : decode cX11_undo 7 = .ok (.ifCond .ne 6, 3) := by decide +kernel
theorem dX11_undo_10 : decode cX11_undo 10 = .ok (.bipush (-2), 2) := by decide +kernel
theorem dX11_undo_12 : decode cX11_undo 12 = .ok (.ireturn, 1) := by decide +kernel
theorem dX11_undo_13 : decode cX11_undo 13 = .ok (.aload_n 0, 1) := by decide +kernel
theorem dX11_undo_14 : decode cX11_undo 14 = .ok (.getfield 30, 3) := by decide +kernel
theorem dX11_undo_17 : decode cX11_undo 17 = .ok (.aload_n 0, 1) := by decide +kernel
theorem dX11_undo_18 : decode cX11_undo 18 = .ok (.getfield 10, 3) := by decide +kernel
theorem dX11_undo_21 : decode cX11_undo 21 = .ok (.aload_n 0, 1) := by decide +kernel
theorem dX11_undo_22 : decode cX11_undo 22 = .ok (.getfield 77, 3) := by decide +kernel
theorem dX11_undo_25 : decode cX11_undo 25 = .ok (.aload_n 0, 1) := by decide +kernel
theorem dX11_undo_26 : decode cX11_undo 26 = .ok (.getfield 81, 3) := by decide +kernel
theorem dX11_undo_29 : decode cX11_undo 29 = .ok (.invokevirtual 217, 3) := by decide +kernel
theorem dX11_undo_32 : decode cX11_undo 32 = .ok (.aload_n 0, 1) := by decide +kernel
theorem dX11_undo_33 : decode cX11_undo 33 = .ok (.getfield 30, 3) := by decide +kernel
theorem dX11_undo_36 : decode cX11_undo 36 = .ok (.getfield 214, 3) := by decide +kernel
theorem dX11_undo_39 : decode cX11_undo 39 = .ok (.ireturn, 1) := by decide +kernel
theorem dX11_save_0 : decode cX11_save 0 = .ok (.iload_n 1, 1) := by decide +kernel
theorem dX11_save_1 : decode cX11_save 1 = .ok (.ifCond .lt 8, 3) := by decide +kernel
theorem dX11_save_4 : decode cX11_save 4 = .ok (.iload_n 1, 1) := by decide +kernel
theorem dX11_save_5 : decode cX11_save 5 = .ok (.iconst 2, 1) := by decide +kernel
theorem dX11_save_6 : decode cX11_save 6 = .ok (.if_icmp .lt 5, 3) := by decide +kernel
theorem dX11_save_9 : decode cX11_save 9 = .ok (.iconst (-1), 1) := by decide +kernel
theorem dX11_save_10 : decode cX11_save 10 = .ok (.ireturn, 1) := by decide +kernel
theorem dX11_save_11 : decode cX11_save 11 = .ok (.aload_n 0, 1) := by decide +kernel
theorem dX11_save_12 : decode cX11_save 12 = .ok (.getfield 19, 3) := by decide +kernel
theorem dX11_save_15 : decode cX11_save 15 = .ok (.iload_n 1, 1) := by decide +kernel
theorem dX11_save_16 : decode cX11_save 16 = .ok (.aaload, 1) := by decide +kernel
theorem dX11_save_17 : decode cX11_save 17 = .ok (.aload_n 0, 1) := by decide +kernel
theorem dX11_save_18 : decode cX11_save 18 = .ok (.getfield 10, 3) := by decide +kernel
theorem dX11_save_21 : decode cX11_save 21 = .ok (.invokevirtual 99, 3) := by decide +kernel
theorem dX11_save_24 : decode cX11_save 24 = .ok (.aload_n 0, 1) := by decide +kernel
theorem dX11_save_25 : decode cX11_save 25 = .ok (.getfield 23, 3) := by decide +kernel
theorem dX11_save_28 : decode cX11_save 28 = .ok (.iload_n 1, 1) := by decide +kernel
theorem dX11_save_29 : decode cX11_save 29 = .ok (.iconst 1, 1) := by decide +kernel
theorem dX11_save_30 : decode cX11_save 30 = .ok (.bastore, 1) := by decide +kernel
theorem dX11_save_31 : decode cX11_save 31 = .ok (.aload_n 0, 1) := by decide +kernel
theorem dX11_save_32 : decode cX11_save 32 = .ok (.getfield 10, 3) := by decide +kernel
theorem dX11_save_35 : decode cX11_save 35 = .ok (.getfield 220, 3) := by decide +kernel
theorem dX11_save_38 : decode cX11_save 38 = .ok (.ireturn, 1) := by decide +kernel
theorem dX11_restore_0 : decode cX11_restore 0 = .ok (.iload_n 1, 1) := by decide +kernel
theorem dX11_restore_1 : decode cX11_restore 1 = .ok (.ifCond .lt 8, 3) := by decide +kernel
theorem dX11_restore_4 : decode cX11_restore 4 = .ok (.iload_n 1, 1) := by decide +kernel
theorem dX11_restore_5 : decode cX11_restore 5 = .ok (.iconst 2, 1) := by decide +kernel
theorem dX11_restore_6 : decode cX11_restore 6 = .ok (.if_icmp .lt 5, 3) := by decide +kernel
theorem dX11_restore_9 : decode cX11_restore 9 = .ok (.iconst (-1), 1) := by decide +kernel
theorem dX11_restore_10 : decode cX11_restore 10 = .ok (.ireturn, 1) := by decide +kernel
theorem dX11_restore_11 : decode cX11_restore 11 = .ok (.aload_n 0, 1) := by decide +kernel
theorem dX11_restore_12 : decode cX11_restore 12 = .ok (.getfield 23, 3) := by decide +kernel
theorem dX11_restore_15 : decode cX11_restore 15 = .ok (.iload_n 1, 1) := by decide +kernel
theorem dX11_restore_16 : decode cX11_restore 16 = .ok (.baload, 1) := by decide +kernel
theorem dX11_restore_17 : decode cX11_restore 17 = .ok (.ifCond .ne 6, 3) := by decide +kernel
theorem dX11_restore_20 : decode cX11_restore 20 = .ok (.bipush (-2), 2) := by decide +kernel
theorem dX11_restore_22 : decode cX11_restore 22 = .ok (.ireturn, 1) := by decide +kernel
theorem dX11_restore_23 : decode cX11_restore 23 = .ok (.aload_n 0, 1) := by decide +kernel
theorem dX11_restore_24 : decode cX11_restore 24 = .ok (.getfield 30, 3) := by decide +kernel
theorem dX11_restore_27 : decode cX11_restore 27 = .ok (.aload_n 0, 1) := by decide +kernel
theorem dX11_restore_28 : decode cX11_restore 28 = .ok (.getfield 10, 3) := by decide +kernel
theorem dX11_restore_31 : decode cX11_restore 31 = .ok (.aload_n 0, 1) := by decide +kernel
theorem dX11_restore_32 : decode cX11_restore 32 = .ok (.getfield 77, 3) := by decide +kernel
theorem dX11_restore_35 : decode cX11_restore 35 = .ok (.aload_n 0, 1) := by decide +kernel
theorem dX11_restore_36 : decode cX11_restore 36 = .ok (.getfield 81, 3) := by decide +kernel
theorem dX11_restore_39 : decode cX11_restore 39 = .ok (.invokevirtual 110, 3) := by decide +kernel
theorem dX11_restore_42 : decode cX11_restore 42 = .ok (.aload_n 0, 1) := by decide +kernel
theorem dX11_restore_43 : decode cX11_restore 43 = .ok (.getfield 10, 3) := by decide +kernel
theorem dX11_restore_46 : decode cX11_restore 46 = .ok (.aload_n 0, 1) := by decide +kernel
theorem dX11_restore_47 : decode cX11_restore 47 = .ok (.getfield 19, 3) := by decide +kernel
theorem dX11_restore_50 : decode cX11_restore 50 = .ok (.iload_n 1, 1) := by decide +kernel
theorem dX11_restore_51 : decode cX11_restore 51 = .ok (.aaload, 1) := by decide +kernel
theorem dX11_restore_52 : decode cX11_restore 52 = .ok (.invokevirtual 99, 3) := by decide +kernel
theorem dX11_restore_55 : decode cX11_restore 55 = .ok (.aload_n 0, 1) := by decide +kernel
theorem dX11_restore_56 : decode cX11_restore 56 = .ok (.getfield 10, 3) := by decide +kernel
theorem dX11_restore_59 : decode cX11_restore 59 = .ok (.getfield 220, 3) := by decide +kernel
theorem dX11_restore_62 : decode cX11_restore 62 = .ok (.ireturn, 1) := by decide +kernel
theorem dX11_flat_0 : decode cX11_flat 0 = .ok (.aload_n 0, 1) := by decide +kernel
theorem dX11_flat_1 : decode cX11_flat 1 = .ok (.getfield 10, 3) := by decide +kernel
theorem dX11_flat_4 : decode cX11_flat 4 = .ok (.iload_n 1, 1) := by decide +kernel
theorem dX11_flat_5 : decode cX11_flat 5 = .ok (.invokevirtual 223, 3) := by decide +kernel
theorem dX11_flat_8 : decode cX11_flat 8 = .ok (.ifCond .ne 5, 3) := by decide +kernel
theorem dX11_flat_11 : decode cX11_flat 11 = .ok (.iconst (-1), 1) := by decide +kernel
theorem dX11_flat_12 : decode cX11_flat 12 = .ok (.ireturn, 1) := by decide +kernel
theorem dX11_flat_13 : decode cX11_flat 13 = .ok (.aload_n 0, 1) := by decide +kernel
theorem dX11_flat_14 : decode cX11_flat 14 = .ok (.getfield 10, 3) := by decide +kernel
theorem dX11_flat_17 : decode cX11_flat 17 = .ok (.iload_n 1, 1) := by decide +kernel
theorem dX11_flat_18 : decode cX11_flat 18 = .ok (.invokevirtual 201, 3) := by decide +kernel
theorem dX11_flat_21 : decode cX11_flat 21 = .ok (.astore_n 3, 1) := by decide +kernel
theorem dX11_flat_22 : decode cX11_flat 22 = .ok (.iload_n 2, 1) := by decide +kernel
theorem dX11_flat_23 : decode cX11_flat 23 = .ok (.tableswitch 49 0 3 #[29, 34, 39, 44], 29) := by decide +kernel
theorem dX11_flat_52 : decode cX11_flat 52 = .ok (.aload_n 3, 1) := by decide +kernel
theorem dX11_flat_53 : decode cX11_flat 53 = .ok (.getfield 224, 3) := by decide +kernel
theorem dX11_flat_56 : decode cX11_flat 56 = .ok (.ireturn, 1) := by decide +kernel
theorem dX11_flat_57 : decode cX11_flat 57 = .ok (.aload_n 3, 1) := by decide +kernel
theorem dX11_flat_58 : decode cX11_flat 58 = .ok (.getfield 227, 3) := by decide +kernel
theorem dX11_flat_61 : decode cX11_flat 61 = .ok (.ireturn, 1) := by decide +kernel
theorem dX11_flat_62 : decode cX11_flat 62 = .ok (.aload_n 3, 1) := by decide +kernel
theorem dX11_flat_63 : decode cX11_flat 63 = .ok (.getfield 230, 3) := by decide +kernel
theorem dX11_flat_66 : decode cX11_flat 66 = .ok (.ireturn, 1) := by decide +kernel
theorem dX11_flat_67 : decode cX11_flat 67 = .ok (.aload_n 3, 1) := by decide +kernel
theorem dX11_flat_68 : decode cX11_flat 68 = .ok (.getfield 233, 3) := by decide +kernel
theorem dX11_flat_71 : decode cX11_flat 71 = .ok (.ireturn, 1) := by decide +kernel
theorem dX11_flat_72 : decode cX11_flat 72 = .ok (.iconst (-1), 1) := by decide +kernel
theorem dX11_flat_73 : decode cX11_flat 73 = .ok (.ireturn, 1) := by decide +kernel
theorem dX11_cutLength_0 : decode cX11_cutLength 0 = .ok (.aload_n 0, 1) := by decide +kernel
theorem dX11_cutLength_1 : decode cX11_cutLength 1 = .ok (.getfield 48, 3) := by decide +kernel
theorem dX11_cutLength_4 : decode cX11_cutLength 4 = .ok (.aload_n 0, 1) := by decide +kernel
theorem dX11_cutLength_5 : decode cX11_cutLength 5 = .ok (.getfield 10, 3) := by decide +kernel
theorem dX11_cutLength_8 : decode cX11_cutLength 8 = .ok (.invokevirtual 236, 3) := by decide +kernel
theorem dX11_cutLength_11 : decode cX11_cutLength 11 = .ok (.ireturn, 1) := by decide +kernel
theorem dX11_creaseLength_0 : decode cX11_creaseLength 0 = .ok (.aload_n 0, 1) := by decide +kernel
theorem dX11_creaseLength_1 : decode cX11_creaseLength 1 = .ok (.getfield 48, 3) := by decide +kernel
theorem dX11_creaseLength_4 : decode cX11_creaseLength 4 = .ok (.aload_n 0, 1) := by decide +kernel
theorem dX11_creaseLength_5 : decode cX11_creaseLength 5 = .ok (.getfield 10, 3) := by decide +kernel
theorem dX11_creaseLength_8 : decode cX11_creaseLength 8 = .ok (.invokevirtual 240, 3) := by decide +kernel
theorem dX11_creaseLength_11 : decode cX11_creaseLength 11 = .ok (.ireturn, 1) := by decide +kernel
theorem dX11_pitch_0 : decode cX11_pitch 0 = .ok (.aload_n 0, 1) := by decide +kernel
theorem dX11_pitch_1 : decode cX11_pitch 1 = .ok (.iload_n 1, 1) := by decide +kernel
theorem dX11_pitch_2 : decode cX11_pitch 2 = .ok (.iload_n 2, 1) := by decide +kernel
theorem dX11_pitch_3 : decode cX11_pitch 3 = .ok (.invokevirtual 243, 3) := by decide +kernel
theorem dX11_pitch_6 : decode cX11_pitch 6 = .ok (.istore 4, 2) := by decide +kernel
theorem dX11_pitch_8 : decode cX11_pitch 8 = .ok (.iload 4, 2) := by decide +kernel
theorem dX11_pitch_10 : decode cX11_pitch 10 = .ok (.ifCond .eq 8, 3) := by decide +kernel
theorem dX11_pitch_13 : decode cX11_pitch 13 = .ok (.iload 4, 2) := by decide +kernel
theorem dX11_pitch_15 : decode cX11_pitch 15 = .ok (.goto 17, 3) := by decide +kernel
theorem dX11_pitch_18 : decode cX11_pitch 18 = .ok (.aload_n 0, 1) := by decide +kernel
theorem dX11_pitch_19 : decode cX11_pitch 19 = .ok (.getfield 48, 3) := by decide +kernel
theorem dX11_pitch_22 : decode cX11_pitch 22 = .ok (.aload_n 0, 1) := by decide +kernel
theorem dX11_pitch_23 : decode cX11_pitch 23 = .ok (.getfield 10, 3) := by decide +kernel
theorem dX11_pitch_26 : decode cX11_pitch 26 = .ok (.iload_n 1, 1) := by decide +kernel
theorem dX11_pitch_27 : decode cX11_pitch 27 = .ok (.iload_n 2, 1) := by decide +kernel
theorem dX11_pitch_28 : decode cX11_pitch 28 = .ok (.iload_n 3, 1) := by decide +kernel
theorem dX11_pitch_29 : decode cX11_pitch 29 = .ok (.invokevirtual 246, 3) := by decide +kernel
theorem dX11_pitch_32 : decode cX11_pitch 32 = .ok (.ireturn, 1) := by decide +kernel
theorem dX11_rowCount_0 : decode cX11_rowCount 0 = .ok (.aload_n 0, 1) := by decide +kernel
theorem dX11_rowCount_1 : decode cX11_rowCount 1 = .ok (.iload_n 1, 1) := by decide +kernel
theorem dX11_rowCount_2 : decode cX11_rowCount 2 = .ok (.iload_n 2, 1) := by decide +kernel
theorem dX11_rowCount_3 : decode cX11_rowCount 3 = .ok (.invokevirtual 243, 3) := by decide +kernel
theorem dX11_rowCount_6 : decode cX11_rowCount 6 = .ok (.istore_n 3, 1) := by decide +kernel
theorem dX11_rowCount_7 : decode cX11_rowCount 7 = .ok (.iload_n 3, 1) := by decide +kernel
theorem dX11_rowCount_8 : decode cX11_rowCount 8 = .ok (.ifCond .eq 7, 3) := by decide +kernel
theorem dX11_rowCount_11 : decode cX11_rowCount 11 = .ok (.iload_n 3, 1) := by decide +kernel
theorem dX11_rowCount_12 : decode cX11_rowCount 12 = .ok (.goto 16, 3) := by decide +kernel
theorem dX11_rowCount_15 : decode cX11_rowCount 15 = .ok (.aload_n 0, 1) := by decide +kernel
theorem dX11_rowCount_16 : decode cX11_rowCount 16 = .ok (.getfield 48, 3) := by decide +kernel
theorem dX11_rowCount_19 : decode cX11_rowCount 19 = .ok (.aload_n 0, 1) := by decide +kernel
theorem dX11_rowCount_20 : decode cX11_rowCount 20 = .ok (.getfield 10, 3) := by decide +kernel
theorem dX11_rowCount_23 : decode cX11_rowCount 23 = .ok (.iload_n 1, 1) := by decide +kernel
theorem dX11_rowCount_24 : decode cX11_rowCount 24 = .ok (.iload_n 2, 1) := by decide +kernel
theorem dX11_rowCount_25 : decode cX11_rowCount 25 = .ok (.invokevirtual 250, 3) := by decide +kernel
theorem dX11_rowCount_28 : decode cX11_rowCount 28 = .ok (.ireturn, 1) := by decide +kernel
theorem dX11_corner_0 : decode cX11_corner 0 = .ok (.aload_n 0, 1) := by decide +kernel
theorem dX11_corner_1 : decode cX11_corner 1 = .ok (.getfield 10, 3) := by decide +kernel
theorem dX11_corner_4 : decode cX11_corner 4 = .ok (.iload_n 1, 1) := by decide +kernel
theorem dX11_corner_5 : decode cX11_corner 5 = .ok (.invokevirtual 223, 3) := by decide +kernel
theorem dX11_corner_8 : decode cX11_corner 8 = .ok (.ifCond .eq 21, 3) := by decide +kernel
theorem dX11_corner_11 : decode cX11_corner 11 = .ok (.iload_n 2, 1) := by decide +kernel
theorem dX11_corner_12 : decode cX11_corner 12 = .ok (.ifCond .lt 17, 3) := by decide +kernel
theorem dX11_corner_15 : decode cX11_corner 15 = .ok (.iload_n 2, 1) := by decide +kernel
theorem dX11_corner_16 : decode cX11_corner 16 = .ok (.iconst 3, 1) := by decide +kernel
theorem dX11_corner_17 : decode cX11_corner 17 = .ok (.if_icmp .gt 12, 3) := by decide +kernel
theorem dX11_corner_20 : decode cX11_corner 20 = .ok (.iload_n 3, 1) := by decide +kernel
theorem dX11_corner_21 : decode cX11_corner 21 = .ok (.ifCond .lt 8, 3) := by decide +kernel
theorem dX11_corner_24 : decode cX11_corner 24 = .ok (.iload_n 3, 1) := by decide +kernel
theorem dX11_corner_25 : decode cX11_corner 25 = .ok (.iconst 2, 1) := by decide +kernel
theorem dX11_corner_26 : decode cX11_corner 26 = .ok (.if_icmp .le 5, 3) := by decide +kernel
theorem dX11_corner_29 : decode cX11_corner 29 = .ok (.iconst (-1), 1) := by decide +kernel
theorem dX11_corner_30 : decode cX11_corner 30 = .ok (.ireturn, 1) := by decide +kernel
theorem dX11_corner_31 : decode cX11_corner 31 = .ok (.aload_n 0, 1) := by decide +kernel
theorem dX11_corner_32 : decode cX11_corner 32 = .ok (.getfield 73, 3) := by decide +kernel
theorem dX11_corner_35 : decode cX11_corner 35 = .ok (.aload_n 0, 1) := by decide +kernel
theorem dX11_corner_36 : decode cX11_corner 36 = .ok (.getfield 10, 3) := by decide +kernel
theorem dX11_corner_39 : decode cX11_corner 39 = .ok (.iconst (-1), 1) := by decide +kernel
theorem dX11_corner_40 : decode cX11_corner 40 = .ok (.invokevirtual 254, 3) := by decide +kernel
theorem dX11_corner_43 : decode cX11_corner 43 = .ok (.aload_n 0, 1) := by decide +kernel
theorem dX11_corner_44 : decode cX11_corner 44 = .ok (.getfield 73, 3) := by decide +kernel
theorem dX11_corner_47 : decode cX11_corner 47 = .ok (.iload_n 1, 1) := by decide +kernel
theorem dX11_corner_48 : decode cX11_corner 48 = .ok (.invokevirtual 260, 3) := by decide +kernel
theorem dX11_corner_51 : decode cX11_corner 51 = .ok (.iload_n 2, 1) := by decide +kernel
theorem dX11_corner_52 : decode cX11_corner 52 = .ok (.iload_n 3, 1) := by decide +kernel
theorem dX11_corner_53 : decode cX11_corner 53 = .ok (.invokevirtual 264, 3) := by decide +kernel
theorem dX11_corner_56 : decode cX11_corner 56 = .ok (.ireturn, 1) := by decide +kernel
theorem dX11_facing_0 : decode cX11_facing 0 = .ok (.aload_n 0, 1) := by decide +kernel
theorem dX11_facing_1 : decode cX11_facing 1 = .ok (.getfield 10, 3) := by decide +kernel
theorem dX11_facing_4 : decode cX11_facing 4 = .ok (.iload_n 1, 1) := by decide +kernel
theorem dX11_facing_5 : decode cX11_facing 5 = .ok (.invokevirtual 223, 3) := by decide +kernel
theorem dX11_facing_8 : decode cX11_facing 8 = .ok (.ifCond .ne 5, 3) := by decide +kernel
theorem dX11_facing_11 : decode cX11_facing 11 = .ok (.iconst (-1), 1) := by decide +kernel
theorem dX11_facing_12 : decode cX11_facing 12 = .ok (.ireturn, 1) := by decide +kernel
theorem dX11_facing_13 : decode cX11_facing 13 = .ok (.aload_n 0, 1) := by decide +kernel
theorem dX11_facing_14 : decode cX11_facing 14 = .ok (.getfield 73, 3) := by decide +kernel
theorem dX11_facing_17 : decode cX11_facing 17 = .ok (.aload_n 0, 1) := by decide +kernel
theorem dX11_facing_18 : decode cX11_facing 18 = .ok (.getfield 10, 3) := by decide +kernel
theorem dX11_facing_21 : decode cX11_facing 21 = .ok (.iconst (-1), 1) := by decide +kernel
theorem dX11_facing_22 : decode cX11_facing 22 = .ok (.invokevirtual 254, 3) := by decide +kernel
theorem dX11_facing_25 : decode cX11_facing 25 = .ok (.aload_n 0, 1) := by decide +kernel
theorem dX11_facing_26 : decode cX11_facing 26 = .ok (.getfield 73, 3) := by decide +kernel
theorem dX11_facing_29 : decode cX11_facing 29 = .ok (.iload_n 1, 1) := by decide +kernel
theorem dX11_facing_30 : decode cX11_facing 30 = .ok (.invokevirtual 260, 3) := by decide +kernel
theorem dX11_facing_33 : decode cX11_facing 33 = .ok (.getfield 269, 3) := by decide +kernel
theorem dX11_facing_36 : decode cX11_facing 36 = .ok (.ireturn, 1) := by decide +kernel
theorem dX11_openLength_0 : decode cX11_openLength 0 = .ok (.aload_n 0, 1) := by decide +kernel
theorem dX11_openLength_1 : decode cX11_openLength 1 = .ok (.getfield 10, 3) := by decide +kernel
theorem dX11_openLength_4 : decode cX11_openLength 4 = .ok (.iload_n 1, 1) := by decide +kernel
theorem dX11_openLength_5 : decode cX11_openLength 5 = .ok (.invokevirtual 223, 3) := by decide +kernel
theorem dX11_openLength_8 : decode cX11_openLength 8 = .ok (.ifCond .eq 12, 3) := by decide +kernel
theorem dX11_openLength_11 : decode cX11_openLength 11 = .ok (.iload_n 2, 1) := by decide +kernel
theorem dX11_openLength_12 : decode cX11_openLength 12 = .ok (.ifCond .lt 8, 3) := by decide +kernel
theorem dX11_openLength_15 : decode cX11_openLength 15 = .ok (.iload_n 2, 1) := by decide +kernel
theorem dX11_openLength_16 : decode cX11_openLength 16 = .ok (.iconst 3, 1) := by decide +kernel
theorem dX11_openLength_17 : decode cX11_openLength 17 = .ok (.if_icmp .le 5, 3) := by decide +kernel
theorem dX11_openLength_20 : decode cX11_openLength 20 = .ok (.iconst (-1), 1) := by decide +kernel
theorem dX11_openLength_21 : decode cX11_openLength 21 = .ok (.ireturn, 1) := by decide +kernel
theorem dX11_openLength_22 : decode cX11_openLength 22 = .ok (.aload_n 0, 1) := by decide +kernel
theorem dX11_openLength_23 : decode cX11_openLength 23 = .ok (.invokevirtual 181, 3) := by decide +kernel
theorem dX11_openLength_26 : decode cX11_openLength 26 = .ok (.aload_n 0, 1) := by decide +kernel
theorem dX11_openLength_27 : decode cX11_openLength 27 = .ok (.getfield 68, 3) := by decide +kernel
theorem dX11_openLength_30 : decode cX11_openLength 30 = .ok (.iload_n 1, 1) := by decide +kernel
theorem dX11_openLength_31 : decode cX11_openLength 31 = .ok (.iload_n 2, 1) := by decide +kernel
theorem dX11_openLength_32 : decode cX11_openLength 32 = .ok (.invokevirtual 272, 3) := by decide +kernel
theorem dX11_openLength_35 : decode cX11_openLength 35 = .ok (.ireturn, 1) := by decide +kernel
theorem dX11_seamCount_0 : decode cX11_seamCount 0 = .ok (.aload_n 0, 1) := by decide +kernel
theorem dX11_seamCount_1 : decode cX11_seamCount 1 = .ok (.invokevirtual 181, 3) := by decide +kernel
theorem dX11_seamCount_4 : decode cX11_seamCount 4 = .ok (.aload_n 0, 1) := by decide +kernel
theorem dX11_seamCount_5 : decode cX11_seamCount 5 = .ok (.getfield 68, 3) := by decide +kernel
theorem dX11_seamCount_8 : decode cX11_seamCount 8 = .ok (.getfield 275, 3) := by decide +kernel
theorem dX11_seamCount_11 : decode cX11_seamCount 11 = .ok (.ireturn, 1) := by decide +kernel
theorem dX11_seam_0 : decode cX11_seam 0 = .ok (.aload_n 0, 1) := by decide +kernel
theorem dX11_seam_1 : decode cX11_seam 1 = .ok (.invokevirtual 181, 3) := by decide +kernel
theorem dX11_seam_4 : decode cX11_seam 4 = .ok (.aload_n 0, 1) := by decide +kernel
theorem dX11_seam_5 : decode cX11_seam 5 = .ok (.getfield 68, 3) := by decide +kernel
theorem dX11_seam_8 : decode cX11_seam 8 = .ok (.iload_n 1, 1) := by decide +kernel
theorem dX11_seam_9 : decode cX11_seam 9 = .ok (.invokevirtual 184, 3) := by decide +kernel
theorem dX11_seam_12 : decode cX11_seam 12 = .ok (.ifCond .eq 13, 3) := by decide +kernel
theorem dX11_seam_15 : decode cX11_seam 15 = .ok (.iload_n 2, 1) := by decide +kernel
theorem dX11_seam_16 : decode cX11_seam 16 = .ok (.ifCond .lt 9, 3) := by decide +kernel
theorem dX11_seam_19 : decode cX11_seam 19 = .ok (.iload_n 2, 1) := by decide +kernel
theorem dX11_seam_20 : decode cX11_seam 20 = .ok (.bipush 7, 2) := by decide +kernel
theorem dX11_seam_22 : decode cX11_seam 22 = .ok (.if_icmp .le 5, 3) := by decide +kernel
theorem dX11_seam_25 : decode cX11_seam 25 = .ok (.iconst (-1), 1) := by decide +kernel
theorem dX11_seam_26 : decode cX11_seam 26 = .ok (.ireturn, 1) := by decide +kernel
theorem dX11_seam_27 : decode cX11_seam 27 = .ok (.iload_n 2, 1) := by decide +kernel
theorem dX11_seam_28 : decode cX11_seam 28 = .ok (.bipush 7, 2) := by decide +kernel
theorem dX11_seam_30 : decode cX11_seam 30 = .ok (.if_icmp .ne 18, 3) := by decide +kernel
theorem dX11_seam_33 : decode cX11_seam 33 = .ok (.aload_n 0, 1) := by decide +kernel
theorem dX11_seam_34 : decode cX11_seam 34 = .ok (.getfield 63, 3) := by decide +kernel
theorem dX11_seam_37 : decode cX11_seam 37 = .ok (.aload_n 0, 1) := by decide +kernel
theorem dX11_seam_38 : decode cX11_seam 38 = .ok (.getfield 10, 3) := by decide +kernel
theorem dX11_seam_41 : decode cX11_seam 41 = .ok (.iload_n 1, 1) := by decide +kernel
theorem dX11_seam_42 : decode cX11_seam 42 = .ok (.invokevirtual 278, 3) := by decide +kernel
theorem dX11_seam_45 : decode cX11_seam 45 = .ok (.goto 16, 3) := by decide +kernel
theorem dX11_seam_48 : decode cX11_seam 48 = .ok (.aload_n 0, 1) := by decide +kernel
theorem dX11_seam_49 : decode cX11_seam 49 = .ok (.getfield 68, 3) := by decide +kernel
theorem dX11_seam_52 : decode cX11_seam 52 = .ok (.aload_n 0, 1) := by decide +kernel
theorem dX11_seam_53 : decode cX11_seam 53 = .ok (.getfield 10, 3) := by decide +kernel
theorem dX11_seam_56 : decode cX11_seam 56 = .ok (.iload_n 1, 1) := by decide +kernel
theorem dX11_seam_57 : decode cX11_seam 57 = .ok (.iload_n 2, 1) := by decide +kernel
theorem dX11_seam_58 : decode cX11_seam 58 = .ok (.invokevirtual 281, 3) := by decide +kernel
theorem dX11_seam_61 : decode cX11_seam 61 = .ok (.ireturn, 1) := by decide +kernel
theorem dX11_coverage_0 : decode cX11_coverage 0 = .ok (.aload_n 0, 1) := by decide +kernel
theorem dX11_coverage_1 : decode cX11_coverage 1 = .ok (.getfield 10, 3) := by decide +kernel
theorem dX11_coverage_4 : decode cX11_coverage 4 = .ok (.iload_n 1, 1) := by decide +kernel
theorem dX11_coverage_5 : decode cX11_coverage 5 = .ok (.invokevirtual 223, 3) := by decide +kernel
theorem dX11_coverage_8 : decode cX11_coverage 8 = .ok (.ifCond .ne 5, 3) := by decide +kernel
theorem dX11_coverage_11 : decode cX11_coverage 11 = .ok (.iconst (-1), 1) := by decide +kernel
theorem dX11_coverage_12 : decode cX11_coverage 12 = .ok (.ireturn, 1) := by decide +kernel
theorem dX11_coverage_13 : decode cX11_coverage 13 = .ok (.aload_n 0, 1) := by decide +kernel
theorem dX11_coverage_14 : decode cX11_coverage 14 = .ok (.getfield 10, 3) := by decide +kernel
theorem dX11_coverage_17 : decode cX11_coverage 17 = .ok (.iload_n 1, 1) := by decide +kernel
theorem dX11_coverage_18 : decode cX11_coverage 18 = .ok (.invokevirtual 201, 3) := by decide +kernel
theorem dX11_coverage_21 : decode cX11_coverage 21 = .ok (.invokevirtual 284, 3) := by decide +kernel
theorem dX11_coverage_24 : decode cX11_coverage 24 = .ok (.ifCond .ne 6, 3) := by decide +kernel
theorem dX11_coverage_27 : decode cX11_coverage 27 = .ok (.bipush (-9), 2) := by decide +kernel
theorem dX11_coverage_29 : decode cX11_coverage 29 = .ok (.ireturn, 1) := by decide +kernel
theorem dX11_coverage_30 : decode cX11_coverage 30 = .ok (.aload_n 0, 1) := by decide +kernel
theorem dX11_coverage_31 : decode cX11_coverage 31 = .ok (.getfield 73, 3) := by decide +kernel
theorem dX11_coverage_34 : decode cX11_coverage 34 = .ok (.aload_n 0, 1) := by decide +kernel
theorem dX11_coverage_35 : decode cX11_coverage 35 = .ok (.getfield 10, 3) := by decide +kernel
theorem dX11_coverage_38 : decode cX11_coverage 38 = .ok (.iconst (-1), 1) := by decide +kernel
theorem dX11_coverage_39 : decode cX11_coverage 39 = .ok (.invokevirtual 254, 3) := by decide +kernel
theorem dX11_coverage_42 : decode cX11_coverage 42 = .ok (.aload_n 0, 1) := by decide +kernel
theorem dX11_coverage_43 : decode cX11_coverage 43 = .ok (.getfield 73, 3) := by decide +kernel
theorem dX11_coverage_46 : decode cX11_coverage 46 = .ok (.aload_n 0, 1) := by decide +kernel
theorem dX11_coverage_47 : decode cX11_coverage 47 = .ok (.getfield 10, 3) := by decide +kernel
theorem dX11_coverage_50 : decode cX11_coverage 50 = .ok (.iload_n 1, 1) := by decide +kernel
theorem dX11_coverage_51 : decode cX11_coverage 51 = .ok (.aload_n 0, 1) := by decide +kernel
theorem dX11_coverage_52 : decode cX11_coverage 52 = .ok (.getfield 77, 3) := by decide +kernel
theorem dX11_coverage_55 : decode cX11_coverage 55 = .ok (.iconst 0, 1) := by decide +kernel
theorem dX11_coverage_56 : decode cX11_coverage 56 = .ok (.iaload, 1) := by decide +kernel
theorem dX11_coverage_57 : decode cX11_coverage 57 = .ok (.invokevirtual 288, 3) := by decide +kernel
theorem dX11_coverage_60 : decode cX11_coverage 60 = .ok (.ireturn, 1) := by decide +kernel
theorem dX11_volume_0 : decode cX11_volume 0 = .ok (.aload_n 0, 1) := by decide +kernel
theorem dX11_volume_1 : decode cX11_volume 1 = .ok (.invokevirtual 181, 3) := by decide +kernel
theorem dX11_volume_4 : decode cX11_volume 4 = .ok (.aload_n 0, 1) := by decide +kernel
theorem dX11_volume_5 : decode cX11_volume 5 = .ok (.getfield 10, 3) := by decide +kernel
theorem dX11_volume_8 : decode cX11_volume 8 = .ok (.getfield 220, 3) := by decide +kernel
theorem dX11_volume_11 : decode cX11_volume 11 = .ok (.ifCond .eq 17, 3) := by decide +kernel
theorem dX11_volume_14 : decode cX11_volume 14 = .ok (.aload_n 0, 1) := by decide +kernel
theorem dX11_volume_15 : decode cX11_volume 15 = .ok (.getfield 55, 3) := by decide +kernel
theorem dX11_volume_18 : decode cX11_volume 18 = .ok (.aload_n 0, 1) := by decide +kernel
theorem dX11_volume_19 : decode cX11_volume 19 = .ok (.getfield 10, 3) := by decide +kernel
theorem dX11_volume_22 : decode cX11_volume 22 = .ok (.invokevirtual 291, 3) := by decide +kernel
theorem dX11_volume_25 : decode cX11_volume 25 = .ok (.ifCond .eq 7, 3) := by decide +kernel
theorem dX11_volume_28 : decode cX11_volume 28 = .ok (.ldc2_w 295, 3) := by decide +kernel
theorem dX11_volume_31 : decode cX11_volume 31 = .ok (.lreturn, 1) := by decide +kernel
theorem dX11_volume_32 : decode cX11_volume 32 = .ok (.aload_n 0, 1) := by decide +kernel
theorem dX11_volume_33 : decode cX11_volume 33 = .ok (.getfield 73, 3) := by decide +kernel
theorem dX11_volume_36 : decode cX11_volume 36 = .ok (.aload_n 0, 1) := by decide +kernel
theorem dX11_volume_37 : decode cX11_volume 37 = .ok (.getfield 10, 3) := by decide +kernel
theorem dX11_volume_40 : decode cX11_volume 40 = .ok (.invokevirtual 297, 3) := by decide +kernel
theorem dX11_volume_43 : decode cX11_volume 43 = .ok (.lreturn, 1) := by decide +kernel
theorem dX11_leastTolerance_0 : decode cX11_leastTolerance 0 = .ok (.aload_n 0, 1) := by decide +kernel
theorem dX11_leastTolerance_1 : decode cX11_leastTolerance 1 = .ok (.getfield 73, 3) := by decide +kernel
theorem dX11_leastTolerance_4 : decode cX11_leastTolerance 4 = .ok (.aload_n 0, 1) := by decide +kernel
theorem dX11_leastTolerance_5 : decode cX11_leastTolerance 5 = .ok (.getfield 10, 3) := by decide +kernel
theorem dX11_leastTolerance_8 : decode cX11_leastTolerance 8 = .ok (.iconst (-1), 1) := by decide +kernel
theorem dX11_leastTolerance_9 : decode cX11_leastTolerance 9 = .ok (.invokevirtual 254, 3) := by decide +kernel
theorem dX11_leastTolerance_12 : decode cX11_leastTolerance 12 = .ok (.iconst 0, 1) := by decide +kernel
theorem dX11_leastTolerance_13 : decode cX11_leastTolerance 13 = .ok (.istore_n 1, 1) := by decide +kernel
theorem dX11_leastTolerance_14 : decode cX11_leastTolerance 14 = .ok (.iload_n 1, 1) := by decide +kernel
theorem dX11_leastTolerance_15 : decode cX11_leastTolerance 15 = .ok (.bipush 20, 2) := by decide +kernel
theorem dX11_leastTolerance_17 : decode cX11_leastTolerance 17 = .ok (.if_icmp .gt 26, 3) := by decide +kernel
theorem dX11_leastTolerance_20 : decode cX11_leastTolerance 20 = .ok (.aload_n 0, 1) := by decide +kernel
theorem dX11_leastTolerance_21 : decode cX11_leastTolerance 21 = .ok (.getfield 55, 3) := by decide +kernel
theorem dX11_leastTolerance_24 : decode cX11_leastTolerance 24 = .ok (.aload_n 0, 1) := by decide +kernel
theorem dX11_leastTolerance_25 : decode cX11_leastTolerance 25 = .ok (.getfield 10, 3) := by decide +kernel
theorem dX11_leastTolerance_28 : decode cX11_leastTolerance 28 = .ok (.iload_n 1, 1) := by decide +kernel
theorem dX11_leastTolerance_29 : decode cX11_leastTolerance 29 = .ok (.invokevirtual 301, 3) := by decide +kernel
theorem dX11_leastTolerance_32 : decode cX11_leastTolerance 32 = .ok (.ifCond .eq 5, 3) := by decide +kernel
theorem dX11_leastTolerance_35 : decode cX11_leastTolerance 35 = .ok (.iload_n 1, 1) := by decide +kernel
theorem dX11_leastTolerance_36 : decode cX11_leastTolerance 36 = .ok (.ireturn, 1) := by decide +kernel
theorem dX11_leastTolerance_37 : decode cX11_leastTolerance 37 = .ok (.iinc 1 1, 3) := by decide +kernel
theorem dX11_leastTolerance_40 : decode cX11_leastTolerance 40 = .ok (.goto (-26), 3) := by decide +kernel
theorem dX11_leastTolerance_43 : decode cX11_leastTolerance 43 = .ok (.bipush (-9), 2) := by decide +kernel
theorem dX11_leastTolerance_45 : decode cX11_leastTolerance 45 = .ok (.ireturn, 1) := by decide +kernel
theorem dX11_crossings_0 : decode cX11_crossings 0 = .ok (.iload_n 1, 1) := by decide +kernel
theorem dX11_crossings_1 : decode cX11_crossings 1 = .ok (.ifCond .lt 22, 3) := by decide +kernel
theorem dX11_crossings_4 : decode cX11_crossings 4 = .ok (.iload_n 1, 1) := by decide +kernel
theorem dX11_crossings_5 : decode cX11_crossings 5 = .ok (.iconst 1, 1) := by decide +kernel
theorem dX11_crossings_6 : decode cX11_crossings 6 = .ok (.iand, 1) := by decide +kernel
theorem dX11_crossings_7 : decode cX11_crossings 7 = .ok (.ifCond .ne 16, 3) := by decide +kernel
theorem dX11_crossings_10 : decode cX11_crossings 10 = .ok (.iload_n 1, 1) := by decide +kernel
theorem dX11_crossings_11 : decode cX11_crossings 11 = .ok (.iconst 1, 1) := by decide +kernel
theorem dX11_crossings_12 : decode cX11_crossings 12 = .ok (.aload_n 0, 1) := by decide +kernel
theorem dX11_crossings_13 : decode cX11_crossings 13 = .ok (.getfield 10, 3) := by decide +kernel
theorem dX11_crossings_16 : decode cX11_crossings 16 = .ok (.getfield 220, 3) := by decide +kernel
theorem dX11_crossings_19 : decode cX11_crossings 19 = .ok (.ishl, 1) := by decide +kernel
theorem dX11_crossings_20 : decode cX11_crossings 20 = .ok (.if_icmp .lt 5, 3) := by decide +kernel
theorem dX11_crossings_23 : decode cX11_crossings 23 = .ok (.iconst (-1), 1) := by decide +kernel
theorem dX11_crossings_24 : decode cX11_crossings 24 = .ok (.ireturn, 1) := by decide +kernel
theorem dX11_crossings_25 : decode cX11_crossings 25 = .ok (.aload_n 0, 1) := by decide +kernel
theorem dX11_crossings_26 : decode cX11_crossings 26 = .ok (.getfield 73, 3) := by decide +kernel
theorem dX11_crossings_29 : decode cX11_crossings 29 = .ok (.aload_n 0, 1) := by decide +kernel
theorem dX11_crossings_30 : decode cX11_crossings 30 = .ok (.getfield 10, 3) := by decide +kernel
theorem dX11_crossings_33 : decode cX11_crossings 33 = .ok (.iload_n 1, 1) := by decide +kernel
theorem dX11_crossings_34 : decode cX11_crossings 34 = .ok (.invokevirtual 254, 3) := by decide +kernel
theorem dX11_crossings_37 : decode cX11_crossings 37 = .ok (.aload_n 0, 1) := by decide +kernel
theorem dX11_crossings_38 : decode cX11_crossings 38 = .ok (.getfield 73, 3) := by decide +kernel
theorem dX11_crossings_41 : decode cX11_crossings 41 = .ok (.aload_n 0, 1) := by decide +kernel
theorem dX11_crossings_42 : decode cX11_crossings 42 = .ok (.getfield 77, 3) := by decide +kernel
theorem dX11_crossings_45 : decode cX11_crossings 45 = .ok (.iconst 0, 1) := by decide +kernel
theorem dX11_crossings_46 : decode cX11_crossings 46 = .ok (.iaload, 1) := by decide +kernel
theorem dX11_crossings_47 : decode cX11_crossings 47 = .ok (.invokevirtual 305, 3) := by decide +kernel
theorem dX11_crossings_50 : decode cX11_crossings 50 = .ok (.ireturn, 1) := by decide +kernel
theorem dX11_foldStep_0 : decode cX11_foldStep 0 = .ok (.iload_n 1, 1) := by decide +kernel
theorem dX11_foldStep_1 : decode cX11_foldStep 1 = .ok (.ifCond .ge 5, 3) := by decide +kernel
theorem dX11_foldStep_4 : decode cX11_foldStep 4 = .ok (.iconst (-1), 1) := by decide +kernel
theorem dX11_foldStep_5 : decode cX11_foldStep 5 = .ok (.ireturn, 1) := by decide +kernel
theorem dX11_foldStep_6 : decode cX11_foldStep 6 = .ok (.aload_n 0, 1) := by decide +kernel
theorem dX11_foldStep_7 : decode cX11_foldStep 7 = .ok (.getfield 73, 3) := by decide +kernel
theorem dX11_foldStep_10 : decode cX11_foldStep 10 = .ok (.aload_n 0, 1) := by decide +kernel
theorem dX11_foldStep_11 : decode cX11_foldStep 11 = .ok (.getfield 10, 3) := by decide +kernel
theorem dX11_foldStep_14 : decode cX11_foldStep 14 = .ok (.aload_n 0, 1) := by decide +kernel
theorem dX11_foldStep_15 : decode cX11_foldStep 15 = .ok (.getfield 77, 3) := by decide +kernel
theorem dX11_foldStep_18 : decode cX11_foldStep 18 = .ok (.iconst 0, 1) := by decide +kernel
theorem dX11_foldStep_19 : decode cX11_foldStep 19 = .ok (.iaload, 1) := by decide +kernel
theorem dX11_foldStep_20 : decode cX11_foldStep 20 = .ok (.invokevirtual 308, 3) := by decide +kernel
theorem dX11_foldStep_23 : decode cX11_foldStep 23 = .ok (.istore_n 2, 1) := by decide +kernel
theorem dX11_foldStep_24 : decode cX11_foldStep 24 = .ok (.iload_n 1, 1) := by decide +kernel
theorem dX11_foldStep_25 : decode cX11_foldStep 25 = .ok (.iload_n 2, 1) := by decide +kernel
theorem dX11_foldStep_26 : decode cX11_foldStep 26 = .ok (.if_icmp .ge 14, 3) := by decide +kernel
theorem dX11_foldStep_29 : decode cX11_foldStep 29 = .ok (.aload_n 0, 1) := by decide +kernel
theorem dX11_foldStep_30 : decode cX11_foldStep 30 = .ok (.getfield 73, 3) := by decide +kernel
theorem dX11_foldStep_33 : decode cX11_foldStep 33 = .ok (.iload_n 1, 1) := by decide +kernel
theorem dX11_foldStep_34 : decode cX11_foldStep 34 = .ok (.invokevirtual 311, 3) := by decide +kernel
theorem dX11_foldStep_37 : decode cX11_foldStep 37 = .ok (.goto 5, 3) := by decide +kernel
theorem dX11_foldStep_40 : decode cX11_foldStep 40 = .ok (.bipush (-9), 2) := by decide +kernel
theorem dX11_foldStep_42 : decode cX11_foldStep 42 = .ok (.ireturn, 1) := by decide +kernel
theorem dX11_imageAt_0 : decode cX11_imageAt 0 = .ok (.aload_n 0, 1) := by decide +kernel
theorem dX11_imageAt_1 : decode cX11_imageAt 1 = .ok (.getfield 10, 3) := by decide +kernel
theorem dX11_imageAt_4 : decode cX11_imageAt 4 = .ok (.iload_n 1, 1) := by decide +kernel
theorem dX11_imageAt_5 : decode cX11_imageAt 5 = .ok (.invokevirtual 223, 3) := by decide +kernel
theorem dX11_imageAt_8 : decode cX11_imageAt 8 = .ok (.ifCond .eq 28, 3) := by decide +kernel
theorem dX11_imageAt_11 : decode cX11_imageAt 11 = .ok (.iload_n 2, 1) := by decide +kernel
theorem dX11_imageAt_12 : decode cX11_imageAt 12 = .ok (.invokestatic 314, 3) := by decide +kernel
theorem dX11_imageAt_15 : decode cX11_imageAt 15 = .ok (.ifCond .eq 21, 3) := by decide +kernel
theorem dX11_imageAt_18 : decode cX11_imageAt 18 = .ok (.iload_n 3, 1) := by decide +kernel
theorem dX11_imageAt_19 : decode cX11_imageAt 19 = .ok (.invokestatic 314, 3) := by decide +kernel
theorem dX11_imageAt_22 : decode cX11_imageAt 22 = .ok (.ifCond .eq 14, 3) := by decide +kernel
theorem dX11_imageAt_25 : decode cX11_imageAt 25 = .ok (.iload 4, 2) := by decide +kernel
theorem dX11_imageAt_27 : decode cX11_imageAt 27 = .ok (.ifCond .lt 9, 3) := by decide +kernel
theorem dX11_imageAt_30 : decode cX11_imageAt 30 = .ok (.iload 4, 2) := by decide +kernel
theorem dX11_imageAt_32 : decode cX11_imageAt 32 = .ok (.iconst 1, 1) := by decide +kernel
theorem dX11_imageAt_33 : decode cX11_imageAt 33 = .ok (.if_icmp .le 5, 3) := by decide +kernel
theorem dX11_imageAt_36 : decode cX11_imageAt 36 = .ok (.iconst (-1), 1) := by decide +kernel
theorem dX11_imageAt_37 : decode cX11_imageAt 37 = .ok (.ireturn, 1) := by decide +kernel
theorem dX11_imageAt_38 : decode cX11_imageAt 38 = .ok (.aload_n 0, 1) := by decide +kernel
theorem dX11_imageAt_39 : decode cX11_imageAt 39 = .ok (.getfield 10, 3) := by decide +kernel
theorem dX11_imageAt_42 : decode cX11_imageAt 42 = .ok (.iload_n 1, 1) := by decide +kernel
theorem dX11_imageAt_43 : decode cX11_imageAt 43 = .ok (.invokevirtual 201, 3) := by decide +kernel
theorem dX11_imageAt_46 : decode cX11_imageAt 46 = .ok (.astore 5, 2) := by decide +kernel
theorem dX11_imageAt_48 : decode cX11_imageAt 48 = .ok (.aload 5, 2) := by decide +kernel
theorem dX11_imageAt_50 : decode cX11_imageAt 50 = .ok (.getfield 205, 3) := by decide +kernel
theorem dX11_imageAt_53 : decode cX11_imageAt 53 = .ok (.bipush (-9), 2) := by decide +kernel
theorem dX11_imageAt_55 : decode cX11_imageAt 55 = .ok (.if_icmp .ne 6, 3) := by decide +kernel
theorem dX11_imageAt_58 : decode cX11_imageAt 58 = .ok (.bipush (-9), 2) := by decide +kernel
theorem dX11_imageAt_60 : decode cX11_imageAt 60 = .ok (.ireturn, 1) := by decide +kernel
theorem dX11_imageAt_61 : decode cX11_imageAt 61 = .ok (.iload 4, 2) := by decide +kernel
theorem dX11_imageAt_63 : decode cX11_imageAt 63 = .ok (.ifCond .ne 17, 3) := by decide +kernel
theorem dX11_imageAt_66 : decode cX11_imageAt 66 = .ok (.aload_n 0, 1) := by decide +kernel
theorem dX11_imageAt_67 : decode cX11_imageAt 67 = .ok (.getfield 10, 3) := by decide +kernel
theorem dX11_imageAt_70 : decode cX11_imageAt 70 = .ok (.aload 5, 2) := by decide +kernel
theorem dX11_imageAt_72 : decode cX11_imageAt 72 = .ok (.iload_n 2, 1) := by decide +kernel
theorem dX11_imageAt_73 : decode cX11_imageAt 73 = .ok (.iload_n 3, 1) := by decide +kernel
theorem dX11_imageAt_74 : decode cX11_imageAt 74 = .ok (.invokestatic 317, 3) := by decide +kernel
theorem dX11_imageAt_77 : decode cX11_imageAt 77 = .ok (.goto 14, 3) := by decide +kernel
theorem dX11_imageAt_80 : decode cX11_imageAt 80 = .ok (.aload_n 0, 1) := by decide +kernel
theorem dX11_imageAt_81 : decode cX11_imageAt 81 = .ok (.getfield 10, 3) := by decide +kernel
theorem dX11_imageAt_84 : decode cX11_imageAt 84 = .ok (.aload 5, 2) := by decide +kernel
theorem dX11_imageAt_86 : decode cX11_imageAt 86 = .ok (.iload_n 2, 1) := by decide +kernel
theorem dX11_imageAt_87 : decode cX11_imageAt 87 = .ok (.iload_n 3, 1) := by decide +kernel
theorem dX11_imageAt_88 : decode cX11_imageAt 88 = .ok (.invokestatic 321, 3) := by decide +kernel
theorem dX11_imageAt_91 : decode cX11_imageAt 91 = .ok (.ireturn, 1) := by decide +kernel
theorem dX11_reach_0 : decode cX11_reach 0 = .ok (.aload_n 0, 1) := by decide +kernel
theorem dX11_reach_1 : decode cX11_reach 1 = .ok (.getfield 10, 3) := by decide +kernel
theorem dX11_reach_4 : decode cX11_reach 4 = .ok (.iload_n 1, 1) := by decide +kernel
theorem dX11_reach_5 : decode cX11_reach 5 = .ok (.invokevirtual 223, 3) := by decide +kernel
theorem dX11_reach_8 : decode cX11_reach 8 = .ok (.ifCond .eq 12, 3) := by decide +kernel
theorem dX11_reach_11 : decode cX11_reach 11 = .ok (.iload_n 2, 1) := by decide +kernel
theorem dX11_reach_12 : decode cX11_reach 12 = .ok (.ifCond .lt 8, 3) := by decide +kernel
theorem dX11_reach_15 : decode cX11_reach 15 = .ok (.iload_n 2, 1) := by decide +kernel
theorem dX11_reach_16 : decode cX11_reach 16 = .ok (.iconst 3, 1) := by decide +kernel
theorem dX11_reach_17 : decode cX11_reach 17 = .ok (.if_icmp .le 5, 3) := by decide +kernel
theorem dX11_reach_20 : decode cX11_reach 20 = .ok (.iconst (-1), 1) := by decide +kernel
theorem dX11_reach_21 : decode cX11_reach 21 = .ok (.ireturn, 1) := by decide +kernel
theorem dX11_reach_22 : decode cX11_reach 22 = .ok (.aload_n 0, 1) := by decide +kernel
theorem dX11_reach_23 : decode cX11_reach 23 = .ok (.getfield 10, 3) := by decide +kernel
theorem dX11_reach_26 : decode cX11_reach 26 = .ok (.aload_n 0, 1) := by decide +kernel
theorem dX11_reach_27 : decode cX11_reach 27 = .ok (.getfield 10, 3) := by decide +kernel
theorem dX11_reach_30 : decode cX11_reach 30 = .ok (.iload_n 1, 1) := by decide +kernel
theorem dX11_reach_31 : decode cX11_reach 31 = .ok (.invokevirtual 201, 3) := by decide +kernel
theorem dX11_reach_34 : decode cX11_reach 34 = .ok (.iload_n 2, 1) := by decide +kernel
theorem dX11_reach_35 : decode cX11_reach 35 = .ok (.invokestatic 324, 3) := by decide +kernel
theorem dX11_reach_38 : decode cX11_reach 38 = .ok (.ireturn, 1) := by decide +kernel
theorem dX11_findingCount_0 : decode cX11_findingCount 0 = .ok (.aload_n 0, 1) := by decide +kernel
theorem dX11_findingCount_1 : decode cX11_findingCount 1 = .ok (.getfield 55, 3) := by decide +kernel
theorem dX11_findingCount_4 : decode cX11_findingCount 4 = .ok (.aload_n 0, 1) := by decide +kernel
theorem dX11_findingCount_5 : decode cX11_findingCount 5 = .ok (.getfield 10, 3) := by decide +kernel
theorem dX11_findingCount_8 : decode cX11_findingCount 8 = .ok (.invokevirtual 328, 3) := by decide +kernel
theorem dX11_findingCount_11 : decode cX11_findingCount 11 = .ok (.aload_n 0, 1) := by decide +kernel
theorem dX11_findingCount_12 : decode cX11_findingCount 12 = .ok (.getfield 55, 3) := by decide +kernel
theorem dX11_findingCount_15 : decode cX11_findingCount 15 = .ok (.getfield 331, 3) := by decide +kernel
theorem dX11_findingCount_18 : decode cX11_findingCount 18 = .ok (.ireturn, 1) := by decide +kernel
theorem dX11_finding_0 : decode cX11_finding 0 = .ok (.aload_n 0, 1) := by decide +kernel
theorem dX11_finding_1 : decode cX11_finding 1 = .ok (.getfield 55, 3) := by decide +kernel
theorem dX11_finding_4 : decode cX11_finding 4 = .ok (.aload_n 0, 1) := by decide +kernel
theorem dX11_finding_5 : decode cX11_finding 5 = .ok (.getfield 10, 3) := by decide +kernel
theorem dX11_finding_8 : decode cX11_finding 8 = .ok (.invokevirtual 328, 3) := by decide +kernel
theorem dX11_finding_11 : decode cX11_finding 11 = .ok (.iload_n 1, 1) := by decide +kernel
theorem dX11_finding_12 : decode cX11_finding 12 = .ok (.ifCond .lt 23, 3) := by decide +kernel
theorem dX11_finding_15 : decode cX11_finding 15 = .ok (.iload_n 1, 1) := by decide +kernel
theorem dX11_finding_16 : decode cX11_finding 16 = .ok (.aload_n 0, 1) := by decide +kernel
theorem dX11_finding_17 : decode cX11_finding 17 = .ok (.getfield 55, 3) := by decide +kernel
theorem dX11_finding_20 : decode cX11_finding 20 = .ok (.getfield 331, 3) := by decide +kernel
theorem dX11_finding_23 : decode cX11_finding 23 = .ok (.if_icmp .ge 12, 3) := by decide +kernel
theorem dX11_finding_26 : decode cX11_finding 26 = .ok (.iload_n 2, 1) := by decide +kernel
theorem dX11_finding_27 : decode cX11_finding 27 = .ok (.ifCond .lt 8, 3) := by decide +kernel
theorem dX11_finding_30 : decode cX11_finding 30 = .ok (.iload_n 2, 1) := by decide +kernel
theorem dX11_finding_31 : decode cX11_finding 31 = .ok (.iconst 5, 1) := by decide +kernel
theorem dX11_finding_32 : decode cX11_finding 32 = .ok (.if_icmp .le 5, 3) := by decide +kernel
theorem dX11_finding_35 : decode cX11_finding 35 = .ok (.iconst (-1), 1) := by decide +kernel
theorem dX11_finding_36 : decode cX11_finding 36 = .ok (.ireturn, 1) := by decide +kernel
theorem dX11_finding_37 : decode cX11_finding 37 = .ok (.aload_n 0, 1) := by decide +kernel
theorem dX11_finding_38 : decode cX11_finding 38 = .ok (.getfield 55, 3) := by decide +kernel
theorem dX11_finding_41 : decode cX11_finding 41 = .ok (.invokevirtual 332, 3) := by decide +kernel
theorem dX11_finding_44 : decode cX11_finding 44 = .ok (.aload_n 0, 1) := by decide +kernel
theorem dX11_finding_45 : decode cX11_finding 45 = .ok (.getfield 55, 3) := by decide +kernel
theorem dX11_finding_48 : decode cX11_finding 48 = .ok (.iload_n 1, 1) := by decide +kernel
theorem dX11_finding_49 : decode cX11_finding 49 = .ok (.iload_n 2, 1) := by decide +kernel
theorem dX11_finding_50 : decode cX11_finding 50 = .ok (.invokevirtual 335, 3) := by decide +kernel
theorem dX11_finding_53 : decode cX11_finding 53 = .ok (.ireturn, 1) := by decide +kernel
theorem dX11_totalCost_0 : decode cX11_totalCost 0 = .ok (.aload_n 0, 1) := by decide +kernel
theorem dX11_totalCost_1 : decode cX11_totalCost 1 = .ok (.getfield 55, 3) := by decide +kernel
theorem dX11_totalCost_4 : decode cX11_totalCost 4 = .ok (.aload_n 0, 1) := by decide +kernel
theorem dX11_totalCost_5 : decode cX11_totalCost 5 = .ok (.getfield 10, 3) := by decide +kernel
theorem dX11_totalCost_8 : decode cX11_totalCost 8 = .ok (.invokevirtual 328, 3) := by decide +kernel
theorem dX11_totalCost_11 : decode cX11_totalCost 11 = .ok (.aload_n 0, 1) := by decide +kernel
theorem dX11_totalCost_12 : decode cX11_totalCost 12 = .ok (.getfield 55, 3) := by decide +kernel
theorem dX11_totalCost_15 : decode cX11_totalCost 15 = .ok (.getfield 337, 3) := by decide +kernel
theorem dX11_totalCost_18 : decode cX11_totalCost 18 = .ok (.lreturn, 1) := by decide +kernel
theorem dX11_panelCost_0 : decode cX11_panelCost 0 = .ok (.aload_n 0, 1) := by decide +kernel
theorem dX11_panelCost_1 : decode cX11_panelCost 1 = .ok (.getfield 10, 3) := by decide +kernel
theorem dX11_panelCost_4 : decode cX11_panelCost 4 = .ok (.iload_n 1, 1) := by decide +kernel
theorem dX11_panelCost_5 : decode cX11_panelCost 5 = .ok (.invokevirtual 223, 3) := by decide +kernel
theorem dX11_panelCost_8 : decode cX11_panelCost 8 = .ok (.ifCond .ne 7, 3) := by decide +kernel
theorem dX11_panelCost_11 : decode cX11_panelCost 11 = .ok (.ldc2_w 341, 3) := by decide +kernel
theorem dX11_panelCost_14 : decode cX11_panelCost 14 = .ok (.lreturn, 1) := by decide +kernel
theorem dX11_panelCost_15 : decode cX11_panelCost 15 = .ok (.aload_n 0, 1) := by decide +kernel
theorem dX11_panelCost_16 : decode cX11_panelCost 16 = .ok (.getfield 55, 3) := by decide +kernel
theorem dX11_panelCost_19 : decode cX11_panelCost 19 = .ok (.aload_n 0, 1) := by decide +kernel
theorem dX11_panelCost_20 : decode cX11_panelCost 20 = .ok (.getfield 10, 3) := by decide +kernel
theorem dX11_panelCost_23 : decode cX11_panelCost 23 = .ok (.invokevirtual 328, 3) := by decide +kernel
theorem dX11_panelCost_26 : decode cX11_panelCost 26 = .ok (.aload_n 0, 1) := by decide +kernel
theorem dX11_panelCost_27 : decode cX11_panelCost 27 = .ok (.getfield 55, 3) := by decide +kernel
theorem dX11_panelCost_30 : decode cX11_panelCost 30 = .ok (.iload_n 1, 1) := by decide +kernel
theorem dX11_panelCost_31 : decode cX11_panelCost 31 = .ok (.invokevirtual 343, 3) := by decide +kernel
theorem dX11_panelCost_34 : decode cX11_panelCost 34 = .ok (.lreturn, 1) := by decide +kernel
theorem dX11_bestDepth_0 : decode cX11_bestDepth 0 = .ok (.aload_n 0, 1) := by decide +kernel
theorem dX11_bestDepth_1 : decode cX11_bestDepth 1 = .ok (.getfield 10, 3) := by decide +kernel
theorem dX11_bestDepth_4 : decode cX11_bestDepth 4 = .ok (.iload_n 1, 1) := by decide +kernel
theorem dX11_bestDepth_5 : decode cX11_bestDepth 5 = .ok (.invokevirtual 138, 3) := by decide +kernel
theorem dX11_bestDepth_8 : decode cX11_bestDepth 8 = .ok (.ifCond .ne 5, 3) := by decide +kernel
theorem dX11_bestDepth_11 : decode cX11_bestDepth 11 = .ok (.iconst (-1), 1) := by decide +kernel
theorem dX11_bestDepth_12 : decode cX11_bestDepth 12 = .ok (.ireturn, 1) := by decide +kernel
theorem dX11_bestDepth_13 : decode cX11_bestDepth 13 = .ok (.aload_n 0, 1) := by decide +kernel
theorem dX11_bestDepth_14 : decode cX11_bestDepth 14 = .ok (.getfield 16, 3) := by decide +kernel
theorem dX11_bestDepth_17 : decode cX11_bestDepth 17 = .ok (.aload_n 0, 1) := by decide +kernel
theorem dX11_bestDepth_18 : decode cX11_bestDepth 18 = .ok (.getfield 10, 3) := by decide +kernel
theorem dX11_bestDepth_21 : decode cX11_bestDepth 21 = .ok (.invokevirtual 99, 3) := by decide +kernel
theorem dX11_bestDepth_24 : decode cX11_bestDepth 24 = .ok (.aload_n 0, 1) := by decide +kernel
theorem dX11_bestDepth_25 : decode cX11_bestDepth 25 = .ok (.getfield 10, 3) := by decide +kernel
theorem dX11_bestDepth_28 : decode cX11_bestDepth 28 = .ok (.iload_n 1, 1) := by decide +kernel
theorem dX11_bestDepth_29 : decode cX11_bestDepth 29 = .ok (.invokevirtual 201, 3) := by decide +kernel
theorem dX11_bestDepth_32 : decode cX11_bestDepth 32 = .ok (.getfield 347, 3) := by decide +kernel
theorem dX11_bestDepth_35 : decode cX11_bestDepth 35 = .ok (.istore_n 2, 1) := by decide +kernel
theorem dX11_bestDepth_36 : decode cX11_bestDepth 36 = .ok (.bipush (-9), 2) := by decide +kernel
theorem dX11_bestDepth_38 : decode cX11_bestDepth 38 = .ok (.istore_n 3, 1) := by decide +kernel
theorem dX11_bestDepth_39 : decode cX11_bestDepth 39 = .ok (.lconst 0, 1) := by decide +kernel
theorem dX11_bestDepth_40 : decode cX11_bestDepth 40 = .ok (.lstore 4, 2) := by decide +kernel
theorem dX11_bestDepth_42 : decode cX11_bestDepth 42 = .ok (.iconst 1, 1) := by decide +kernel
theorem dX11_bestDepth_43 : decode cX11_bestDepth 43 = .ok (.istore 6, 2) := by decide +kernel
theorem dX11_bestDepth_45 : decode cX11_bestDepth 45 = .ok (.iload 6, 2) := by decide +kernel
theorem dX11_bestDepth_47 : decode cX11_bestDepth 47 = .ok (.bipush 100, 2) := by decide +kernel
theorem dX11_bestDepth_49 : decode cX11_bestDepth 49 = .ok (.if_icmp .gt 122, 3) := by decide +kernel
theorem dX11_bestDepth_52 : decode cX11_bestDepth 52 = .ok (.aload_n 0, 1) := by decide +kernel
theorem dX11_bestDepth_53 : decode cX11_bestDepth 53 = .ok (.getfield 16, 3) := by decide +kernel
theorem dX11_bestDepth_56 : decode cX11_bestDepth 56 = .ok (.iload_n 1, 1) := by decide +kernel
theorem dX11_bestDepth_57 : decode cX11_bestDepth 57 = .ok (.invokevirtual 201, 3) := by decide +kernel
theorem dX11_bestDepth_60 : decode cX11_bestDepth 60 = .ok (.iload 6, 2) := by decide +kernel
theorem dX11_bestDepth_62 : decode cX11_bestDepth 62 = .ok (.putfield 347, 3) := by decide +kernel
theorem dX11_bestDepth_65 : decode cX11_bestDepth 65 = .ok (.aload_n 0, 1) := by decide +kernel
theorem dX11_bestDepth_66 : decode cX11_bestDepth 66 = .ok (.getfield 16, 3) := by decide +kernel
theorem dX11_bestDepth_69 : decode cX11_bestDepth 69 = .ok (.invokevirtual 350, 3) := by decide +kernel
theorem dX11_bestDepth_72 : decode cX11_bestDepth 72 = .ok (.aload_n 0, 1) := by decide +kernel
theorem dX11_bestDepth_73 : decode cX11_bestDepth 73 = .ok (.getfield 16, 3) := by decide +kernel
theorem dX11_bestDepth_76 : decode cX11_bestDepth 76 = .ok (.invokevirtual 353, 3) := by decide +kernel
theorem dX11_bestDepth_79 : decode cX11_bestDepth 79 = .ok (.ifCond .eq 86, 3) := by decide +kernel
theorem dX11_bestDepth_82 : decode cX11_bestDepth 82 = .ok (.aload_n 0, 1) := by decide +kernel
theorem dX11_bestDepth_83 : decode cX11_bestDepth 83 = .ok (.getfield 55, 3) := by decide +kernel
theorem dX11_bestDepth_86 : decode cX11_bestDepth 86 = .ok (.aload_n 0, 1) := by decide +kernel
theorem dX11_bestDepth_87 : decode cX11_bestDepth 87 = .ok (.getfield 16, 3) := by decide +kernel
theorem dX11_bestDepth_90 : decode cX11_bestDepth 90 = .ok (.invokevirtual 328, 3) := by decide +kernel
theorem dX11_bestDepth_93 : decode cX11_bestDepth 93 = .ok (.iload 6, 2) := by decide +kernel
theorem dX11_bestDepth_95 : decode cX11_bestDepth 95 = .ok (.iload_n 2, 1) := by decide +kernel
theorem dX11_bestDepth_96 : decode cX11_bestDepth 96 = .ok (.isub, 1) := by decide +kernel
theorem dX11_bestDepth_97 : decode cX11_bestDepth 97 = .ok (.invokestatic 356, 3) := by decide +kernel
theorem dX11_bestDepth_100 : decode cX11_bestDepth 100 = .ok (.iload_n 3, 1) := by decide +kernel
theorem dX11_bestDepth_101 : decode cX11_bestDepth 101 = .ok (.iload_n 2, 1) := by decide +kernel
theorem dX11_bestDepth_102 : decode cX11_bestDepth 102 = .ok (.isub, 1) := by decide +kernel
theorem dX11_bestDepth_103 : decode cX11_bestDepth 103 = .ok (.invokestatic 356, 3) := by decide +kernel
theorem dX11_bestDepth_106 : decode cX11_bestDepth 106 = .ok (.if_icmp .ge 7, 3) := by decide +kernel
theorem dX11_bestDepth_109 : decode cX11_bestDepth 109 = .ok (.iconst 1, 1) := by decide +kernel
theorem dX11_bestDepth_110 : decode cX11_bestDepth 110 = .ok (.goto 4, 3) := by decide +kernel
theorem dX11_bestDepth_113 : decode cX11_bestDepth 113 = .ok (.iconst 0, 1) := by decide +kernel
theorem dX11_bestDepth_114 : decode cX11_bestDepth 114 = .ok (.istore 7, 2) := by decide +kernel
theorem dX11_bestDepth_116 : decode cX11_bestDepth 116 = .ok (.iload_n 3, 1) := by decide +kernel
theorem dX11_bestDepth_117 : decode cX11_bestDepth 117 = .ok (.bipush (-9), 2) := by decide +kernel
theorem dX11_bestDepth_119 : decode cX11_bestDepth 119 = .ok (.if_icmp .eq 34, 3) := by decide +kernel
theorem dX11_bestDepth_122 : decode cX11_bestDepth 122 = .ok (.aload_n 0, 1) := by decide +kernel
theorem dX11_bestDepth_123 : decode cX11_bestDepth 123 = .ok (.getfield 55, 3) := by decide +kernel
theorem dX11_bestDepth_126 : decode cX11_bestDepth 126 = .ok (.getfield 337, 3) := by decide +kernel
theorem dX11_bestDepth_129 : decode cX11_bestDepth 129 = .ok (.lload 4, 2) := by decide +kernel
theorem dX11_bestDepth_131 : decode cX11_bestDepth 131 = .ok (.lcmp, 1) := by decide +kernel
theorem dX11_bestDepth_132 : decode cX11_bestDepth 132 = .ok (.ifCond .lt 21, 3) := by decide +kernel
theorem dX11_bestDepth_135 : decode cX11_bestDepth 135 = .ok (.aload_n 0, 1) := by decide +kernel
theorem dX11_bestDepth_136 : decode cX11_bestDepth 136 = .ok (.getfield 55, 3) := by decide +kernel
theorem dX11_bestDepth_139 : decode cX11_bestDepth 139 = .ok (.getfield 337, 3) := by decide +kernel
theorem dX11_bestDepth_142 : decode cX11_bestDepth 142 = .ok (.lload 4, 2) := by decide +kernel
theorem dX11_bestDepth_144 : decode cX11_bestDepth 144 = .ok (.lcmp, 1) := by decide +kernel
theorem dX11_bestDepth_145 : decode cX11_bestDepth 145 = .ok (.ifCond .ne 20, 3) := by decide +kernel
theorem dX11_bestDepth_148 : decode cX11_bestDepth 148 = .ok (.iload 7, 2) := by decide +kernel
theorem dX11_bestDepth_150 : decode cX11_bestDepth 150 = .ok (.ifCond .eq 15, 3) := by decide +kernel
theorem dX11_bestDepth_153 : decode cX11_bestDepth 153 = .ok (.iload 6, 2) := by decide +kernel
theorem dX11_bestDepth_155 : decode cX11_bestDepth 155 = .ok (.istore_n 3, 1) := by decide +kernel
theorem dX11_bestDepth_156 : decode cX11_bestDepth 156 = .ok (.aload_n 0, 1) := by decide +kernel
theorem dX11_bestDepth_157 : decode cX11_bestDepth 157 = .ok (.getfield 55, 3) := by decide +kernel
theorem dX11_bestDepth_160 : decode cX11_bestDepth 160 = .ok (.getfield 337, 3) := by decide +kernel
theorem dX11_bestDepth_163 : decode cX11_bestDepth 163 = .ok (.lstore 4, 2) := by decide +kernel
theorem dX11_bestDepth_165 : decode cX11_bestDepth 165 = .ok (.iinc 6 1, 3) := by decide +kernel
theorem dX11_bestDepth_168 : decode cX11_bestDepth 168 = .ok (.goto (-123), 3) := by decide +kernel
theorem dX11_bestDepth_171 : decode cX11_bestDepth 171 = .ok (.iload_n 3, 1) := by decide +kernel
theorem dX11_bestDepth_172 : decode cX11_bestDepth 172 = .ok (.ireturn, 1) := by decide +kernel
theorem dX11_bestAngle_0 : decode cX11_bestAngle 0 = .ok (.aload_n 0, 1) := by decide +kernel
theorem dX11_bestAngle_1 : decode cX11_bestAngle 1 = .ok (.getfield 10, 3) := by decide +kernel
theorem dX11_bestAngle_4 : decode cX11_bestAngle 4 = .ok (.iload_n 1, 1) := by decide +kernel
theorem dX11_bestAngle_5 : decode cX11_bestAngle 5 = .ok (.invokevirtual 138, 3) := by decide +kernel
theorem dX11_bestAngle_8 : decode cX11_bestAngle 8 = .ok (.ifCond .ne 5, 3) := by decide +kernel
theorem dX11_bestAngle_11 : decode cX11_bestAngle 11 = .ok (.iconst (-1), 1) := by decide +kernel
theorem dX11_bestAngle_12 : decode cX11_bestAngle 12 = .ok (.ireturn, 1) := by decide +kernel
theorem dX11_bestAngle_13 : decode cX11_bestAngle 13 = .ok (.aload_n 0, 1) := by decide +kernel
theorem dX11_bestAngle_14 : decode cX11_bestAngle 14 = .ok (.getfield 16, 3) := by decide +kernel
theorem dX11_bestAngle_17 : decode cX11_bestAngle 17 = .ok (.aload_n 0, 1) := by decide +kernel
theorem dX11_bestAngle_18 : decode cX11_bestAngle 18 = .ok (.getfield 10, 3) := by decide +kernel
theorem dX11_bestAngle_21 : decode cX11_bestAngle 21 = .ok (.invokevirtual 99, 3) := by decide +kernel
theorem dX11_bestAngle_24 : decode cX11_bestAngle 24 = .ok (.aload_n 0, 1) := by decide +kernel
theorem dX11_bestAngle_25 : decode cX11_bestAngle 25 = .ok (.getfield 55, 3) := by decide +kernel
theorem dX11_bestAngle_28 : decode cX11_bestAngle 28 = .ok (.aload_n 0, 1) := by decide +kernel
theorem dX11_bestAngle_29 : decode cX11_bestAngle 29 = .ok (.getfield 16, 3) := by decide +kernel
theorem dX11_bestAngle_32 : decode cX11_bestAngle 32 = .ok (.invokevirtual 328, 3) := by decide +kernel
theorem dX11_bestAngle_35 : decode cX11_bestAngle 35 = .ok (.aload_n 0, 1) := by decide +kernel
theorem dX11_bestAngle_36 : decode cX11_bestAngle 36 = .ok (.getfield 16, 3) := by decide +kernel
theorem dX11_bestAngle_39 : decode cX11_bestAngle 39 = .ok (.iload_n 1, 1) := by decide +kernel
theorem dX11_bestAngle_40 : decode cX11_bestAngle 40 = .ok (.invokevirtual 201, 3) := by decide +kernel
theorem dX11_bestAngle_43 : decode cX11_bestAngle 43 = .ok (.getfield 361, 3) := by decide +kernel
theorem dX11_bestAngle_46 : decode cX11_bestAngle 46 = .ok (.istore_n 2, 1) := by decide +kernel
theorem dX11_bestAngle_47 : decode cX11_bestAngle 47 = .ok (.aload_n 0, 1) := by decide +kernel
theorem dX11_bestAngle_48 : decode cX11_bestAngle 48 = .ok (.getfield 55, 3) := by decide +kernel
theorem dX11_bestAngle_51 : decode cX11_bestAngle 51 = .ok (.getfield 337, 3) := by decide +kernel
theorem dX11_bestAngle_54 : decode cX11_bestAngle 54 = .ok (.lstore_n 3, 1) := by decide +kernel
theorem dX11_bestAngle_55 : decode cX11_bestAngle 55 = .ok (.iconst (-1), 1) := by decide +kernel
theorem dX11_bestAngle_56 : decode cX11_bestAngle 56 = .ok (.istore 5, 2) := by decide +kernel
theorem dX11_bestAngle_58 : decode cX11_bestAngle 58 = .ok (.iload 5, 2) := by decide +kernel
theorem dX11_bestAngle_60 : decode cX11_bestAngle 60 = .ok (.iconst 2, 1) := by decide +kernel
theorem dX11_bestAngle_61 : decode cX11_bestAngle 61 = .ok (.if_icmp .gt 56, 3) := by decide +kernel
theorem dX11_bestAngle_64 : decode cX11_bestAngle 64 = .ok (.aload_n 0, 1) := by decide +kernel
theorem dX11_bestAngle_65 : decode cX11_bestAngle 65 = .ok (.getfield 16, 3) := by decide +kernel
theorem dX11_bestAngle_68 : decode cX11_bestAngle 68 = .ok (.iload_n 1, 1) := by decide +kernel
theorem dX11_bestAngle_69 : decode cX11_bestAngle 69 = .ok (.invokevirtual 201, 3) := by decide +kernel
theorem dX11_bestAngle_72 : decode cX11_bestAngle 72 = .ok (.iload 5, 2) := by decide +kernel
theorem dX11_bestAngle_74 : decode cX11_bestAngle 74 = .ok (.putfield 361, 3) := by decide +kernel
theorem dX11_bestAngle_77 : decode cX11_bestAngle 77 = .ok (.aload_n 0, 1) := by decide +kernel
theorem dX11_bestAngle_78 : decode cX11_bestAngle 78 = .ok (.getfield 55, 3) := by decide +kernel
theorem dX11_bestAngle_81 : decode cX11_bestAngle 81 = .ok (.aload_n 0, 1) := by decide +kernel
theorem dX11_bestAngle_82 : decode cX11_bestAngle 82 = .ok (.getfield 16, 3) := by decide +kernel
theorem dX11_bestAngle_85 : decode cX11_bestAngle 85 = .ok (.invokevirtual 328, 3) := by decide +kernel
theorem dX11_bestAngle_88 : decode cX11_bestAngle 88 = .ok (.aload_n 0, 1) := by decide +kernel
theorem dX11_bestAngle_89 : decode cX11_bestAngle 89 = .ok (.getfield 55, 3) := by decide +kernel
theorem dX11_bestAngle_92 : decode cX11_bestAngle 92 = .ok (.getfield 337, 3) := by decide +kernel
theorem dX11_bestAngle_95 : decode cX11_bestAngle 95 = .ok (.lload_n 3, 1) := by decide +kernel
theorem dX11_bestAngle_96 : decode cX11_bestAngle 96 = .ok (.lcmp, 1) := by decide +kernel
theorem dX11_bestAngle_97 : decode cX11_bestAngle 97 = .ok (.ifCond .ge 14, 3) := by decide +kernel
theorem dX11_bestAngle_100 : decode cX11_bestAngle 100 = .ok (.iload 5, 2) := by decide +kernel
theorem dX11_bestAngle_102 : decode cX11_bestAngle 102 = .ok (.istore_n 2, 1) := by decide +kernel
theorem dX11_bestAngle_103 : decode cX11_bestAngle 103 = .ok (.aload_n 0, 1) := by decide +kernel
theorem dX11_bestAngle_104 : decode cX11_bestAngle 104 = .ok (.getfield 55, 3) := by decide +kernel
theorem dX11_bestAngle_107 : decode cX11_bestAngle 107 = .ok (.getfield 337, 3) := by decide +kernel
theorem dX11_bestAngle_110 : decode cX11_bestAngle 110 = .ok (.lstore_n 3, 1) := by decide +kernel
theorem dX11_bestAngle_111 : decode cX11_bestAngle 111 = .ok (.iinc 5 1, 3) := by decide +kernel
theorem dX11_bestAngle_114 : decode cX11_bestAngle 114 = .ok (.goto (-56), 3) := by decide +kernel
theorem dX11_bestAngle_117 : decode cX11_bestAngle 117 = .ok (.iload_n 2, 1) := by decide +kernel
theorem dX11_bestAngle_118 : decode cX11_bestAngle 118 = .ok (.ireturn, 1) := by decide +kernel
theorem dX11_count_0 : decode cX11_count 0 = .ok (.iload_n 1, 1) := by decide +kernel
theorem dX11_count_1 : decode cX11_count 1 = .ok (.tableswitch 118 0 6 #[43, 51, 59, 89, 94, 102, 110], 43) := by decide +kernel
theorem dX11_count_44 : decode cX11_count 44 = .ok (.aload_n 0, 1) := by decide +kernel
theorem dX11_count_45 : decode cX11_count 45 = .ok (.getfield 10, 3) := by decide +kernel
theorem dX11_count_48 : decode cX11_count 48 = .ok (.getfield 220, 3) := by decide +kernel
theorem dX11_count_51 : decode cX11_count 51 = .ok (.ireturn, 1) := by decide +kernel
theorem dX11_count_52 : decode cX11_count 52 = .ok (.aload_n 0, 1) := by decide +kernel
theorem dX11_count_53 : decode cX11_count 53 = .ok (.getfield 30, 3) := by decide +kernel
theorem dX11_count_56 : decode cX11_count 56 = .ok (.getfield 214, 3) := by decide +kernel
theorem dX11_count_59 : decode cX11_count 59 = .ok (.ireturn, 1) := by decide +kernel
theorem dX11_count_60 : decode cX11_count 60 = .ok (.aload_n 0, 1) := by decide +kernel
theorem dX11_count_61 : decode cX11_count 61 = .ok (.getfield 23, 3) := by decide +kernel
theorem dX11_count_64 : decode cX11_count 64 = .ok (.iconst 0, 1) := by decide +kernel
theorem dX11_count_65 : decode cX11_count 65 = .ok (.baload, 1) := by decide +kernel
theorem dX11_count_66 : decode cX11_count 66 = .ok (.ifCond .eq 7, 3) := by decide +kernel
theorem dX11_count_69 : decode cX11_count 69 = .ok (.iconst 1, 1) := by decide +kernel
theorem dX11_count_70 : decode cX11_count 70 = .ok (.goto 4, 3) := by decide +kernel
theorem dX11_count_73 : decode cX11_count 73 = .ok (.iconst 0, 1) := by decide +kernel
theorem dX11_count_74 : decode cX11_count 74 = .ok (.aload_n 0, 1) := by decide +kernel
theorem dX11_count_75 : decode cX11_count 75 = .ok (.getfield 23, 3) := by decide +kernel
theorem dX11_count_78 : decode cX11_count 78 = .ok (.iconst 1, 1) := by decide +kernel
theorem dX11_count_79 : decode cX11_count 79 = .ok (.baload, 1) := by decide +kernel
theorem dX11_count_80 : decode cX11_count 80 = .ok (.ifCond .eq 7, 3) := by decide +kernel
theorem dX11_count_83 : decode cX11_count 83 = .ok (.iconst 1, 1) := by decide +kernel
theorem dX11_count_84 : decode cX11_count 84 = .ok (.goto 4, 3) := by decide +kernel
theorem dX11_count_87 : decode cX11_count 87 = .ok (.iconst 0, 1) := by decide +kernel
theorem dX11_count_88 : decode cX11_count 88 = .ok (.iadd, 1) := by decide +kernel
theorem dX11_count_89 : decode cX11_count 89 = .ok (.ireturn, 1) := by decide +kernel
theorem dX11_count_90 : decode cX11_count 90 = .ok (.aload_n 0, 1) := by decide +kernel
theorem dX11_count_91 : decode cX11_count 91 = .ok (.getfield 82, 3) := by decide +kernel
theorem dX11_count_94 : decode cX11_count 94 = .ok (.ireturn, 1) := by decide +kernel
theorem dX11_count_95 : decode cX11_count 95 = .ok (.aload_n 0, 1) := by decide +kernel
theorem dX11_count_96 : decode cX11_count 96 = .ok (.getfield 10, 3) := by decide +kernel
theorem dX11_count_99 : decode cX11_count 99 = .ok (.invokevirtual 364, 3) := by decide +kernel
theorem dX11_count_102 : decode cX11_count 102 = .ok (.ireturn, 1) := by decide +kernel
theorem dX11_count_103 : decode cX11_count 103 = .ok (.aload_n 0, 1) := by decide +kernel
theorem dX11_count_104 : decode cX11_count 104 = .ok (.getfield 10, 3) := by decide +kernel
theorem dX11_count_107 : decode cX11_count 107 = .ok (.invokevirtual 367, 3) := by decide +kernel
theorem dX11_count_110 : decode cX11_count 110 = .ok (.ireturn, 1) := by decide +kernel
theorem dX11_count_111 : decode cX11_count 111 = .ok (.aload_n 0, 1) := by decide +kernel
theorem dX11_count_112 : decode cX11_count 112 = .ok (.getfield 10, 3) := by decide +kernel
theorem dX11_count_115 : decode cX11_count 115 = .ok (.invokevirtual 370, 3) := by decide +kernel
theorem dX11_count_118 : decode cX11_count 118 = .ok (.ireturn, 1) := by decide +kernel
theorem dX11_count_119 : decode cX11_count 119 = .ok (.iconst (-1), 1) := by decide +kernel
theorem dX11_count_120 : decode cX11_count 120 = .ok (.ireturn, 1) := by decide +kernel
theorem dX11_findSeams_0 : decode cX11_findSeams 0 = .ok (.aload_n 0, 1) := by decide +kernel
theorem dX11_findSeams_1 : decode cX11_findSeams 1 = .ok (.getfield 73, 3) := by decide +kernel
theorem dX11_findSeams_4 : decode cX11_findSeams 4 = .ok (.aload_n 0, 1) := by decide +kernel
theorem dX11_findSeams_5 : decode cX11_findSeams 5 = .ok (.getfield 10, 3) := by decide +kernel
theorem dX11_findSeams_8 : decode cX11_findSeams 8 = .ok (.iconst (-1), 1) := by decide +kernel
theorem dX11_findSeams_9 : decode cX11_findSeams 9 = .ok (.invokevirtual 254, 3) := by decide +kernel
theorem dX11_findSeams_12 : decode cX11_findSeams 12 = .ok (.aload_n 0, 1) := by decide +kernel
theorem dX11_findSeams_13 : decode cX11_findSeams 13 = .ok (.getfield 68, 3) := by decide +kernel
theorem dX11_findSeams_16 : decode cX11_findSeams 16 = .ok (.aload_n 0, 1) := by decide +kernel
theorem dX11_findSeams_17 : decode cX11_findSeams 17 = .ok (.getfield 77, 3) := by decide +kernel
theorem dX11_findSeams_20 : decode cX11_findSeams 20 = .ok (.iconst 0, 1) := by decide +kernel
theorem dX11_findSeams_21 : decode cX11_findSeams 21 = .ok (.iaload, 1) := by decide +kernel
theorem dX11_findSeams_22 : decode cX11_findSeams 22 = .ok (.invokevirtual 373, 3) := by decide +kernel
theorem dX11_findSeams_25 : decode cX11_findSeams 25 = .ok (.return_, 1) := by decide +kernel
theorem dX11_pitchFault_0 : decode cX11_pitchFault 0 = .ok (.iload_n 1, 1) := by decide +kernel
theorem dX11_pitchFault_1 : decode cX11_pitchFault 1 = .ok (.ifCond .lt 18, 3) := by decide +kernel
theorem dX11_pitchFault_4 : decode cX11_pitchFault 4 = .ok (.iload_n 1, 1) := by decide +kernel
theorem dX11_pitchFault_5 : decode cX11_pitchFault 5 = .ok (.iconst 1, 1) := by decide +kernel
theorem dX11_pitchFault_6 : decode cX11_pitchFault 6 = .ok (.if_icmp .gt 13, 3) := by decide +kernel
theorem dX11_pitchFault_9 : decode cX11_pitchFault 9 = .ok (.iload_n 2, 1) := by decide +kernel
theorem dX11_pitchFault_10 : decode cX11_pitchFault 10 = .ok (.ifCond .lt 9, 3) := by decide +kernel
theorem dX11_pitchFault_13 : decode cX11_pitchFault 13 = .ok (.iload_n 2, 1) := by decide +kernel
theorem dX11_pitchFault_14 : decode cX11_pitchFault 14 = .ok (.bipush 50, 2) := by decide +kernel
theorem dX11_pitchFault_16 : decode cX11_pitchFault 16 = .ok (.if_icmp .le 5, 3) := by decide +kernel
theorem dX11_pitchFault_19 : decode cX11_pitchFault 19 = .ok (.iconst (-1), 1) := by decide +kernel
theorem dX11_pitchFault_20 : decode cX11_pitchFault 20 = .ok (.ireturn, 1) := by decide +kernel
theorem dX11_pitchFault_21 : decode cX11_pitchFault 21 = .ok (.aload_n 0, 1) := by decide +kernel
theorem dX11_pitchFault_22 : decode cX11_pitchFault 22 = .ok (.getfield 10, 3) := by decide +kernel
theorem dX11_pitchFault_25 : decode cX11_pitchFault 25 = .ok (.getfield 220, 3) := by decide +kernel
theorem dX11_pitchFault_28 : decode cX11_pitchFault 28 = .ok (.ifCond .ne 8, 3) := by decide +kernel
theorem dX11_pitchFault_31 : decode cX11_pitchFault 31 = .ok (.bipush (-2), 2) := by decide +kernel
theorem dX11_pitchFault_33 : decode cX11_pitchFault 33 = .ok (.goto 4, 3) := by decide +kernel
theorem dX11_pitchFault_36 : decode cX11_pitchFault 36 = .ok (.iconst 0, 1) := by decide +kernel
theorem dX11_pitchFault_37 : decode cX11_pitchFault 37 = .ok (.ireturn, 1) := by decide +kernel
theorem dX11_isAngle_0 : decode cX11_isAngle 0 = .ok (.iload_n 0, 1) := by decide +kernel
theorem dX11_isAngle_1 : decode cX11_isAngle 1 = .ok (.iconst (-1), 1) := by decide +kernel
theorem dX11_isAngle_2 : decode cX11_isAngle 2 = .ok (.if_icmp .lt 12, 3) := by decide +kernel
theorem dX11_isAngle_5 : decode cX11_isAngle 5 = .ok (.iload_n 0, 1) := by decide +kernel
theorem dX11_isAngle_6 : decode cX11_isAngle 6 = .ok (.iconst 2, 1) := by decide +kernel
theorem dX11_isAngle_7 : decode cX11_isAngle 7 = .ok (.if_icmp .gt 7, 3) := by decide +kernel
theorem dX11_isAngle_10 : decode cX11_isAngle 10 = .ok (.iconst 1, 1) := by decide +kernel
theorem dX11_isAngle_11 : decode cX11_isAngle 11 = .ok (.goto 4, 3) := by decide +kernel
theorem dX11_isAngle_14 : decode cX11_isAngle 14 = .ok (.iconst 0, 1) := by decide +kernel
theorem dX11_isAngle_15 : decode cX11_isAngle 15 = .ok (.ireturn, 1) := by decide +kernel
theorem dX11_isPosition_0 : decode cX11_isPosition 0 = .ok (.iload_n 0, 1) := by decide +kernel
theorem dX11_isPosition_1 : decode cX11_isPosition 1 = .ok (.sipush (-300), 3) := by decide +kernel
theorem dX11_isPosition_4 : decode cX11_isPosition 4 = .ok (.if_icmp .lt 14, 3) := by decide +kernel
theorem dX11_isPosition_7 : decode cX11_isPosition 7 = .ok (.iload_n 0, 1) := by decide +kernel
theorem dX11_isPosition_8 : decode cX11_isPosition 8 = .ok (.sipush 300, 3) := by decide +kernel
theorem dX11_isPosition_11 : decode cX11_isPosition 11 = .ok (.if_icmp .gt 7, 3) := by decide +kernel
theorem dX11_isPosition_14 : decode cX11_isPosition 14 = .ok (.iconst 1, 1) := by decide +kernel
theorem dX11_isPosition_15 : decode cX11_isPosition 15 = .ok (.goto 4, 3) := by decide +kernel
theorem dX11_isPosition_18 : decode cX11_isPosition 18 = .ok (.iconst 0, 1) := by decide +kernel
theorem dX11_isPosition_19 : decode cX11_isPosition 19 = .ok (.ireturn, 1) := by decide +kernel
theorem dX11_isLength_0 : decode cX11_isLength 0 = .ok (.iload_n 0, 1) := by decide +kernel
theorem dX11_isLength_1 : decode cX11_isLength 1 = .ok (.iconst 1, 1) := by decide +kernel
theorem dX11_isLength_2 : decode cX11_isLength 2 = .ok (.if_icmp .lt 14, 3) := by decide +kernel
theorem dX11_isLength_5 : decode cX11_isLength 5 = .ok (.iload_n 0, 1) := by decide +kernel
theorem dX11_isLength_6 : decode cX11_isLength 6 = .ok (.sipush 300, 3) := by decide +kernel
theorem dX11_isLength_9 : decode cX11_isLength 9 = .ok (.if_icmp .gt 7, 3) := by decide +kernel
theorem dX11_isLength_12 : decode cX11_isLength 12 = .ok (.iconst 1, 1) := by decide +kernel
theorem dX11_isLength_13 : decode cX11_isLength 13 = .ok (.goto 4, 3) := by decide +kernel
theorem dX11_isLength_16 : decode cX11_isLength 16 = .ok (.iconst 0, 1) := by decide +kernel
theorem dX11_isLength_17 : decode cX11_isLength 17 = .ok (.ireturn, 1) := by decide +kernel
theorem dX11_isOffset_0 : decode cX11_isOffset 0 = .ok (.iload_n 0, 1) := by decide +kernel
theorem dX11_isOffset_1 : decode cX11_isOffset 1 = .ok (.ifCond .lt 14, 3) := by decide +kernel
theorem dX11_isOffset_4 : decode cX11_isOffset 4 = .ok (.iload_n 0, 1) := by decide +kernel
theorem dX11_isOffset_5 : decode cX11_isOffset 5 = .ok (.sipush 300, 3) := by decide +kernel
theorem dX11_isOffset_8 : decode cX11_isOffset 8 = .ok (.if_icmp .gt 7, 3) := by decide +kernel
theorem dX11_isOffset_11 : decode cX11_isOffset 11 = .ok (.iconst 1, 1) := by decide +kernel
theorem dX11_isOffset_12 : decode cX11_isOffset 12 = .ok (.goto 4, 3) := by decide +kernel
theorem dX11_isOffset_15 : decode cX11_isOffset 15 = .ok (.iconst 0, 1) := by decide +kernel
theorem dX11_isOffset_16 : decode cX11_isOffset 16 = .ok (.ireturn, 1) := by decide +kernel
theorem dX11_common_0 : decode cX11_common 0 = .ok (.iload_n 1, 1) := by decide +kernel
theorem dX11_common_1 : decode cX11_common 1 = .ok (.iload_n 3, 1) := by decide +kernel
theorem dX11_common_2 : decode cX11_common 2 = .ok (.invokestatic 377, 3) := by decide +kernel
theorem dX11_common_5 : decode cX11_common 5 = .ok (.iload_n 0, 1) := by decide +kernel
theorem dX11_common_6 : decode cX11_common 6 = .ok (.iload_n 2, 1) := by decide +kernel
theorem dX11_common_7 : decode cX11_common 7 = .ok (.invokestatic 380, 3) := by decide +kernel
theorem dX11_common_10 : decode cX11_common 10 = .ok (.isub, 1) := by decide +kernel
theorem dX11_common_11 : decode cX11_common 11 = .ok (.ireturn, 1) := by decide +kernel
