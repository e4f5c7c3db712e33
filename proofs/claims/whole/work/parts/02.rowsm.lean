theorem dX8_init_0 : decode cX8_init 0 = .ok (.aload_n 0, 1) := by decide +kernel
theorem dX8_init_1 : decode cX8_init 1 = .ok (.invokespecial 1, 3) := by decide +kernel
theorem dX8_init_4 : decode cX8_init 4 = .ok (.aload_n 0, 1) := by decide +kernel
theorem dX8_init_5 : decode cX8_init 5 = .ok (.iconst 2, 1) := by decide +kernel
theorem dX8_init_6 : decode cX8_init 6 = .ok (.putfield 7, 3) := by decide +kernel
theorem dX8_init_9 : decode cX8_init 9 = .ok (.aload_n 0, 1) := by decide +kernel
theorem dX8_init_10 : decode cX8_init 10 = .ok (.iconst 2, 1) := by decide +kernel
theorem dX8_init_11 : decode cX8_init 11 = .ok (.putfield 13, 3) := by decide +kernel
theorem dX8_init_14 : decode cX8_init 14 = .ok (.aload_n 0, 1) := by decide +kernel
theorem dX8_init_15 : decode cX8_init 15 = .ok (.bipush 96, 2) := by decide +kernel
theorem dX8_init_17 : decode cX8_init 17 = .ok (.newarray .int, 2) := by decide +kernel
theorem dX8_init_19 : decode cX8_init 19 = .ok (.putfield 16, 3) := by decide +kernel
theorem dX8_init_22 : decode cX8_init 22 = .ok (.aload_n 0, 1) := by decide +kernel
theorem dX8_init_23 : decode cX8_init 23 = .ok (.bipush 12, 2) := by decide +kernel
theorem dX8_init_25 : decode cX8_init 25 = .ok (.newarray .int, 2) := by decide +kernel
theorem dX8_init_27 : decode cX8_init 27 = .ok (.putfield 20, 3) := by decide +kernel
theorem dX8_init_30 : decode cX8_init 30 = .ok (.aload_n 0, 1) := by decide +kernel
theorem dX8_init_31 : decode cX8_init 31 = .ok (.bipush 96, 2) := by decide +kernel
theorem dX8_init_33 : decode cX8_init 33 = .ok (.newarray .int, 2) := by decide +kernel
theorem dX8_init_35 : decode cX8_init 35 = .ok (.putfield 23, 3) := by decide +kernel
theorem dX8_init_38 : decode cX8_init 38 = .ok (.aload_n 0, 1) := by decide +kernel
theorem dX8_init_39 : decode cX8_init 39 = .ok (.bipush 96, 2) := by decide +kernel
theorem dX8_init_41 : decode cX8_init 41 = .ok (.newarray .int, 2) := by decide +kernel
theorem dX8_init_43 : decode cX8_init 43 = .ok (.putfield 26, 3) := by decide +kernel
theorem dX8_init_46 : decode cX8_init 46 = .ok (.aload_n 0, 1) := by decide +kernel
theorem dX8_init_47 : decode cX8_init 47 = .ok (.bipush 96, 2) := by decide +kernel
theorem dX8_init_49 : decode cX8_init 49 = .ok (.newarray .int, 2) := by decide +kernel
theorem dX8_init_51 : decode cX8_init 51 = .ok (.putfield 29, 3) := by decide +kernel
theorem dX8_init_54 : decode cX8_init 54 = .ok (.aload_n 0, 1) := by decide +kernel
theorem dX8_init_55 : decode cX8_init 55 = .ok (.bipush 96, 2) := by decide +kernel
theorem dX8_init_57 : decode cX8_init 57 = .ok (.newarray .int, 2) := by decide +kernel
theorem dX8_init_59 : decode cX8_init 59 = .ok (.putfield 32, 3) := by decide +kernel
theorem dX8_init_62 : decode cX8_init 62 = .ok (.aload_n 0, 1) := by decide +kernel
theorem dX8_init_63 : decode cX8_init 63 = .ok (.bipush 96, 2) := by decide +kernel
theorem dX8_init_65 : decode cX8_init 65 = .ok (.newarray .int, 2) := by decide +kernel
theorem dX8_init_67 : decode cX8_init 67 = .ok (.putfield 35, 3) := by decide +kernel
theorem dX8_init_70 : decode cX8_init 70 = .ok (.aload_n 0, 1) := by decide +kernel
theorem dX8_init_71 : decode cX8_init 71 = .ok (.bipush 96, 2) := by decide +kernel
theorem dX8_init_73 : decode cX8_init 73 = .ok (.newarray .int, 2) := by decide +kernel
theorem dX8_init_75 : decode cX8_init 75 = .ok (.putfield 38, 3) := by decide +kernel
theorem dX8_init_78 : decode cX8_init 78 = .ok (.aload_n 0, 1) := by decide +kernel
theorem dX8_init_79 : decode cX8_init 79 = .ok (.bipush 96, 2) := by decide +kernel
theorem dX8_init_81 : decode cX8_init 81 = .ok (.newarray .int, 2) := by decide +kernel
theorem dX8_init_83 : decode cX8_init 83 = .ok (.putfield 41, 3) := by decide +kernel
theorem dX8_init_86 : decode cX8_init 86 = .ok (.aload_n 0, 1) := by decide +kernel
theorem dX8_init_87 : decode cX8_init 87 = .ok (.bipush 96, 2) := by decide +kernel
theorem dX8_init_89 : decode cX8_init 89 = .ok (.newarray .int, 2) := by decide +kernel
theorem dX8_init_91 : decode cX8_init 91 = .ok (.putfield 44, 3) := by decide +kernel
theorem dX8_init_94 : decode cX8_init 94 = .ok (.aload_n 0, 1) := by decide +kernel
theorem dX8_init_95 : decode cX8_init 95 = .ok (.bipush 96, 2) := by decide +kernel
theorem dX8_init_97 : decode cX8_init 97 = .ok (.newarray .int, 2) := by decide +kernel
theorem dX8_init_99 : decode cX8_init 99 = .ok (.putfield 47, 3) := by decide +kernel
theorem dX8_init_102 : decode cX8_init 102 = .ok (.aload_n 0, 1) := by decide +kernel
theorem dX8_init_103 : decode cX8_init 103 = .ok (.bipush 100, 2) := by decide +kernel
theorem dX8_init_105 : decode cX8_init 105 = .ok (.newarray .int, 2) := by decide +kernel
theorem dX8_init_107 : decode cX8_init 107 = .ok (.putfield 50, 3) := by decide +kernel
theorem dX8_init_110 : decode cX8_init 110 = .ok (.aload_n 0, 1) := by decide +kernel
theorem dX8_init_111 : decode cX8_init 111 = .ok (.bipush 100, 2) := by decide +kernel
theorem dX8_init_113 : decode cX8_init 113 = .ok (.newarray .int, 2) := by decide +kernel
theorem dX8_init_115 : decode cX8_init 115 = .ok (.putfield 53, 3) := by decide +kernel
theorem dX8_init_118 : decode cX8_init 118 = .ok (.aload_n 0, 1) := by decide +kernel
theorem dX8_init_119 : decode cX8_init 119 = .ok (.bipush 100, 2) := by decide +kernel
theorem dX8_init_121 : decode cX8_init 121 = .ok (.newarray .int, 2) := by decide +kernel
theorem dX8_init_123 : decode cX8_init 123 = .ok (.putfield 56, 3) := by decide +kernel
theorem dX8_init_126 : decode cX8_init 126 = .ok (.aload_n 0, 1) := by decide +kernel
theorem dX8_init_127 : decode cX8_init 127 = .ok (.bipush 20, 2) := by decide +kernel
theorem dX8_init_129 : decode cX8_init 129 = .ok (.newarray .int, 2) := by decide +kernel
theorem dX8_init_131 : decode cX8_init 131 = .ok (.putfield 59, 3) := by decide +kernel
theorem dX8_init_134 : decode cX8_init 134 = .ok (.aload_n 0, 1) := by decide +kernel
theorem dX8_init_135 : decode cX8_init 135 = .ok (.bipush 20, 2) := by decide +kernel
theorem dX8_init_137 : decode cX8_init 137 = .ok (.newarray .int, 2) := by decide +kernel
theorem dX8_init_139 : decode cX8_init 139 = .ok (.putfield 62, 3) := by decide +kernel
theorem dX8_init_142 : decode cX8_init 142 = .ok (.aload_n 0, 1) := by decide +kernel
theorem dX8_init_143 : decode cX8_init 143 = .ok (.bipush 8, 2) := by decide +kernel
theorem dX8_init_145 : decode cX8_init 145 = .ok (.newarray .int, 2) := by decide +kernel
theorem dX8_init_147 : decode cX8_init 147 = .ok (.putfield 65, 3) := by decide +kernel
theorem dX8_init_150 : decode cX8_init 150 = .ok (.aload_n 0, 1) := by decide +kernel
theorem dX8_init_151 : decode cX8_init 151 = .ok (.bipush 6, 2) := by decide +kernel
theorem dX8_init_153 : decode cX8_init 153 = .ok (.putfield 68, 3) := by decide +kernel
theorem dX8_init_156 : decode cX8_init 156 = .ok (.aload_n 0, 1) := by decide +kernel
theorem dX8_init_157 : decode cX8_init 157 = .ok (.getfield 20, 3) := by decide +kernel
theorem dX8_init_160 : decode cX8_init 160 = .ok (.iconst 0, 1) := by decide +kernel
theorem dX8_init_161 : decode cX8_init 161 = .ok (.iconst 1, 1) := by decide +kernel
theorem dX8_init_162 : decode cX8_init 162 = .ok (.iastore, 1) := by decide +kernel
theorem dX8_init_163 : decode cX8_init 163 = .ok (.aload_n 0, 1) := by decide +kernel
theorem dX8_init_164 : decode cX8_init 164 = .ok (.getfield 20, 3) := by decide +kernel
theorem dX8_init_167 : decode cX8_init 167 = .ok (.iconst 1, 1) := by decide +kernel
theorem dX8_init_168 : decode cX8_init 168 = .ok (.iconst 1, 1) := by decide +kernel
theorem dX8_init_169 : decode cX8_init 169 = .ok (.iastore, 1) := by decide +kernel
theorem dX8_init_170 : decode cX8_init 170 = .ok (.aload_n 0, 1) := by decide +kernel
theorem dX8_init_171 : decode cX8_init 171 = .ok (.invokevirtual 71, 3) := by decide +kernel
theorem dX8_init_174 : decode cX8_init 174 = .ok (.aload_n 0, 1) := by decide +kernel
theorem dX8_init_175 : decode cX8_init 175 = .ok (.invokevirtual 74, 3) := by decide +kernel
theorem dX8_init_178 : decode cX8_init 178 = .ok (.return_, 1) := by decide +kernel
theorem dX8_thrown_0 : decode cX8_thrown 0 = .ok (.aload_n 0, 1) := by decide +kernel
theorem dX8_thrown_1 : decode cX8_thrown 1 = .ok (.getfield 77, 3) := by decide +kernel
theorem dX8_thrown_4 : decode cX8_thrown 4 = .ok (.ireturn, 1) := by decide +kernel
theorem dX8_holds_0 : decode cX8_holds 0 = .ok (.aload_n 0, 1) := by decide +kernel
theorem dX8_holds_1 : decode cX8_holds 1 = .ok (.iload_n 1, 1) := by decide +kernel
theorem dX8_holds_2 : decode cX8_holds 2 = .ok (.putfield 77, 3) := by decide +kernel
theorem dX8_holds_5 : decode cX8_holds 5 = .ok (.iload_n 1, 1) := by decide +kernel
theorem dX8_holds_6 : decode cX8_holds 6 = .ok (.ifCond .le 7, 3) := by decide +kernel
theorem dX8_holds_9 : decode cX8_holds 9 = .ok (.iconst 1, 1) := by decide +kernel
theorem dX8_holds_10 : decode cX8_holds 10 = .ok (.goto 4, 3) := by decide +kernel
theorem dX8_holds_13 : decode cX8_holds 13 = .ok (.iconst 0, 1) := by decide +kernel
theorem dX8_holds_14 : decode cX8_holds 14 = .ok (.ireturn, 1) := by decide +kernel
theorem dX8_in_0 : decode cX8_in 0 = .ok (.iload_n 1, 1) := by decide +kernel
theorem dX8_in_1 : decode cX8_in 1 = .ok (.iload_n 2, 1) := by decide +kernel
theorem dX8_in_2 : decode cX8_in 2 = .ok (.if_icmp .lt 12, 3) := by decide +kernel
theorem dX8_in_5 : decode cX8_in 5 = .ok (.iload_n 1, 1) := by decide +kernel
theorem dX8_in_6 : decode cX8_in 6 = .ok (.iload_n 3, 1) := by decide +kernel
theorem dX8_in_7 : decode cX8_in 7 = .ok (.if_icmp .gt 7, 3) := by decide +kernel
theorem dX8_in_10 : decode cX8_in 10 = .ok (.iconst 1, 1) := by decide +kernel
theorem dX8_in_11 : decode cX8_in 11 = .ok (.goto 4, 3) := by decide +kernel
theorem dX8_in_14 : decode cX8_in 14 = .ok (.iconst 0, 1) := by decide +kernel
theorem dX8_in_15 : decode cX8_in 15 = .ok (.ireturn, 1) := by decide +kernel
theorem dX8_unlay_0 : decode cX8_unlay 0 = .ok (.iconst 0, 1) := by decide +kernel
theorem dX8_unlay_1 : decode cX8_unlay 1 = .ok (.istore_n 1, 1) := by decide +kernel
theorem dX8_unlay_2 : decode cX8_unlay 2 = .ok (.iload_n 1, 1) := by decide +kernel
theorem dX8_unlay_3 : decode cX8_unlay 3 = .ok (.bipush 8, 2) := by decide +kernel
theorem dX8_unlay_5 : decode cX8_unlay 5 = .ok (.if_icmp .ge 16, 3) := by decide +kernel
theorem dX8_unlay_8 : decode cX8_unlay 8 = .ok (.aload_n 0, 1) := by decide +kernel
theorem dX8_unlay_9 : decode cX8_unlay 9 = .ok (.getfield 65, 3) := by decide +kernel
theorem dX8_unlay_12 : decode cX8_unlay 12 = .ok (.iload_n 1, 1) := by decide +kernel
theorem dX8_unlay_13 : decode cX8_unlay 13 = .ok (.iconst (-1), 1) := by decide +kernel
theorem dX8_unlay_14 : decode cX8_unlay 14 = .ok (.iastore, 1) := by decide +kernel
theorem dX8_unlay_15 : decode cX8_unlay 15 = .ok (.iinc 1 1, 3) := by decide +kernel
theorem dX8_unlay_18 : decode cX8_unlay 18 = .ok (.goto (-16), 3) := by decide +kernel
theorem dX8_unlay_21 : decode cX8_unlay 21 = .ok (.return_, 1) := by decide +kernel
theorem dX8_isBarred_0 : decode cX8_isBarred 0 = .ok (.aload_n 0, 1) := by decide +kernel
theorem dX8_isBarred_1 : decode cX8_isBarred 1 = .ok (.getfield 16, 3) := by decide +kernel
theorem dX8_isBarred_4 : decode cX8_isBarred 4 = .ok (.iload_n 1, 1) := by decide +kernel
theorem dX8_isBarred_5 : decode cX8_isBarred 5 = .ok (.iaload, 1) := by decide +kernel
theorem dX8_isBarred_6 : decode cX8_isBarred 6 = .ok (.iconst 1, 1) := by decide +kernel
theorem dX8_isBarred_7 : decode cX8_isBarred 7 = .ok (.if_icmp .eq 19, 3) := by decide +kernel
theorem dX8_isBarred_10 : decode cX8_isBarred 10 = .ok (.iload_n 1, 1) := by decide +kernel
theorem dX8_isBarred_11 : decode cX8_isBarred 11 = .ok (.bipush 12, 2) := by decide +kernel
theorem dX8_isBarred_13 : decode cX8_isBarred 13 = .ok (.if_icmp .ge 17, 3) := by decide +kernel
theorem dX8_isBarred_16 : decode cX8_isBarred 16 = .ok (.aload_n 0, 1) := by decide +kernel
theorem dX8_isBarred_17 : decode cX8_isBarred 17 = .ok (.getfield 20, 3) := by decide +kernel
theorem dX8_isBarred_20 : decode cX8_isBarred 20 = .ok (.iload_n 1, 1) := by decide +kernel
theorem dX8_isBarred_21 : decode cX8_isBarred 21 = .ok (.iaload, 1) := by decide +kernel
theorem dX8_isBarred_22 : decode cX8_isBarred 22 = .ok (.iconst 1, 1) := by decide +kernel
theorem dX8_isBarred_23 : decode cX8_isBarred 23 = .ok (.if_icmp .ne 7, 3) := by decide +kernel
theorem dX8_isBarred_26 : decode cX8_isBarred 26 = .ok (.iconst 1, 1) := by decide +kernel
theorem dX8_isBarred_27 : decode cX8_isBarred 27 = .ok (.goto 4, 3) := by decide +kernel
theorem dX8_isBarred_30 : decode cX8_isBarred 30 = .ok (.iconst 0, 1) := by decide +kernel
theorem dX8_isBarred_31 : decode cX8_isBarred 31 = .ok (.ireturn, 1) := by decide +kernel
theorem dX8_isEdge_0 : decode cX8_isEdge 0 = .ok (.iload_n 1, 1) := by decide +kernel
theorem dX8_isEdge_1 : decode cX8_isEdge 1 = .ok (.bipush 12, 2) := by decide +kernel
theorem dX8_isEdge_3 : decode cX8_isEdge 3 = .ok (.irem, 1) := by decide +kernel
theorem dX8_isEdge_4 : decode cX8_isEdge 4 = .ok (.istore_n 2, 1) := by decide +kernel
theorem dX8_isEdge_5 : decode cX8_isEdge 5 = .ok (.iload_n 1, 1) := by decide +kernel
theorem dX8_isEdge_6 : decode cX8_isEdge 6 = .ok (.bipush 12, 2) := by decide +kernel
theorem dX8_isEdge_8 : decode cX8_isEdge 8 = .ok (.idiv, 1) := by decide +kernel
theorem dX8_isEdge_9 : decode cX8_isEdge 9 = .ok (.istore_n 3, 1) := by decide +kernel
theorem dX8_isEdge_10 : decode cX8_isEdge 10 = .ok (.iload_n 2, 1) := by decide +kernel
theorem dX8_isEdge_11 : decode cX8_isEdge 11 = .ok (.aload_n 0, 1) := by decide +kernel
theorem dX8_isEdge_12 : decode cX8_isEdge 12 = .ok (.getfield 80, 3) := by decide +kernel
theorem dX8_isEdge_15 : decode cX8_isEdge 15 = .ok (.if_icmp .lt 33, 3) := by decide +kernel
theorem dX8_isEdge_18 : decode cX8_isEdge 18 = .ok (.iload_n 2, 1) := by decide +kernel
theorem dX8_isEdge_19 : decode cX8_isEdge 19 = .ok (.bipush 12, 2) := by decide +kernel
theorem dX8_isEdge_21 : decode cX8_isEdge 21 = .ok (.aload_n 0, 1) := by decide +kernel
theorem dX8_isEdge_22 : decode cX8_isEdge 22 = .ok (.getfield 80, 3) := by decide +kernel
theorem dX8_isEdge_25 : decode cX8_isEdge 25 = .ok (.isub, 1) := by decide +kernel
theorem dX8_isEdge_26 : decode cX8_isEdge 26 = .ok (.if_icmp .ge 22, 3) := by decide +kernel
theorem dX8_isEdge_29 : decode cX8_isEdge 29 = .ok (.iload_n 3, 1) := by decide +kernel
theorem dX8_isEdge_30 : decode cX8_isEdge 30 = .ok (.aload_n 0, 1) := by decide +kernel
theorem dX8_isEdge_31 : decode cX8_isEdge 31 = .ok (.getfield 80, 3) := by decide +kernel
theorem dX8_isEdge_34 : decode cX8_isEdge 34 = .ok (.if_icmp .lt 14, 3) := by decide +kernel
theorem dX8_isEdge_37 : decode cX8_isEdge 37 = .ok (.iload_n 3, 1) := by decide +kernel
theorem dX8_isEdge_38 : decode cX8_isEdge 38 = .ok (.bipush 8, 2) := by decide +kernel
theorem dX8_isEdge_40 : decode cX8_isEdge 40 = .ok (.aload_n 0, 1) := by decide +kernel
theorem dX8_isEdge_41 : decode cX8_isEdge 41 = .ok (.getfield 80, 3) := by decide +kernel
theorem dX8_isEdge_44 : decode cX8_isEdge 44 = .ok (.isub, 1) := by decide +kernel
theorem dX8_isEdge_45 : decode cX8_isEdge 45 = .ok (.if_icmp .lt 7, 3) := by decide +kernel
theorem dX8_isEdge_48 : decode cX8_isEdge 48 = .ok (.iconst 1, 1) := by decide +kernel
theorem dX8_isEdge_49 : decode cX8_isEdge 49 = .ok (.goto 4, 3) := by decide +kernel
theorem dX8_isEdge_52 : decode cX8_isEdge 52 = .ok (.iconst 0, 1) := by decide +kernel
theorem dX8_isEdge_53 : decode cX8_isEdge 53 = .ok (.ireturn, 1) := by decide +kernel
theorem dX8_tileOf_0 : decode cX8_tileOf 0 = .ok (.iload_n 1, 1) := by decide +kernel
theorem dX8_tileOf_1 : decode cX8_tileOf 1 = .ok (.bipush 12, 2) := by decide +kernel
theorem dX8_tileOf_3 : decode cX8_tileOf 3 = .ok (.idiv, 1) := by decide +kernel
theorem dX8_tileOf_4 : decode cX8_tileOf 4 = .ok (.aload_n 0, 1) := by decide +kernel
theorem dX8_tileOf_5 : decode cX8_tileOf 5 = .ok (.getfield 80, 3) := by decide +kernel
theorem dX8_tileOf_8 : decode cX8_tileOf 8 = .ok (.isub, 1) := by decide +kernel
theorem dX8_tileOf_9 : decode cX8_tileOf 9 = .ok (.aload_n 0, 1) := by decide +kernel
theorem dX8_tileOf_10 : decode cX8_tileOf 10 = .ok (.getfield 13, 3) := by decide +kernel
theorem dX8_tileOf_13 : decode cX8_tileOf 13 = .ok (.idiv, 1) := by decide +kernel
theorem dX8_tileOf_14 : decode cX8_tileOf 14 = .ok (.istore_n 2, 1) := by decide +kernel
theorem dX8_tileOf_15 : decode cX8_tileOf 15 = .ok (.aload_n 0, 1) := by decide +kernel
theorem dX8_tileOf_16 : decode cX8_tileOf 16 = .ok (.getfield 83, 3) := by decide +kernel
theorem dX8_tileOf_19 : decode cX8_tileOf 19 = .ok (.iconst 1, 1) := by decide +kernel
theorem dX8_tileOf_20 : decode cX8_tileOf 20 = .ok (.if_icmp .ne 19, 3) := by decide +kernel
theorem dX8_tileOf_23 : decode cX8_tileOf 23 = .ok (.iload_n 2, 1) := by decide +kernel
theorem dX8_tileOf_24 : decode cX8_tileOf 24 = .ok (.iconst 2, 1) := by decide +kernel
theorem dX8_tileOf_25 : decode cX8_tileOf 25 = .ok (.irem, 1) := by decide +kernel
theorem dX8_tileOf_26 : decode cX8_tileOf 26 = .ok (.iconst 1, 1) := by decide +kernel
theorem dX8_tileOf_27 : decode cX8_tileOf 27 = .ok (.if_icmp .ne 12, 3) := by decide +kernel
theorem dX8_tileOf_30 : decode cX8_tileOf 30 = .ok (.aload_n 0, 1) := by decide +kernel
theorem dX8_tileOf_31 : decode cX8_tileOf 31 = .ok (.getfield 7, 3) := by decide +kernel
theorem dX8_tileOf_34 : decode cX8_tileOf 34 = .ok (.iconst 2, 1) := by decide +kernel
theorem dX8_tileOf_35 : decode cX8_tileOf 35 = .ok (.idiv, 1) := by decide +kernel
theorem dX8_tileOf_36 : decode cX8_tileOf 36 = .ok (.goto 4, 3) := by decide +kernel
theorem dX8_tileOf_39 : decode cX8_tileOf 39 = .ok (.iconst 0, 1) := by decide +kernel
theorem dX8_tileOf_40 : decode cX8_tileOf 40 = .ok (.istore_n 3, 1) := by decide +kernel
theorem dX8_tileOf_41 : decode cX8_tileOf 41 = .ok (.bipush 100, 2) := by decide +kernel
theorem dX8_tileOf_43 : decode cX8_tileOf 43 = .ok (.iload_n 2, 1) := by decide +kernel
theorem dX8_tileOf_44 : decode cX8_tileOf 44 = .ok (.imul, 1) := by decide +kernel
theorem dX8_tileOf_45 : decode cX8_tileOf 45 = .ok (.iload_n 1, 1) := by decide +kernel
theorem dX8_tileOf_46 : decode cX8_tileOf 46 = .ok (.bipush 12, 2) := by decide +kernel
theorem dX8_tileOf_48 : decode cX8_tileOf 48 = .ok (.irem, 1) := by decide +kernel
theorem dX8_tileOf_49 : decode cX8_tileOf 49 = .ok (.aload_n 0, 1) := by decide +kernel
theorem dX8_tileOf_50 : decode cX8_tileOf 50 = .ok (.getfield 80, 3) := by decide +kernel
theorem dX8_tileOf_53 : decode cX8_tileOf 53 = .ok (.isub, 1) := by decide +kernel
theorem dX8_tileOf_54 : decode cX8_tileOf 54 = .ok (.iload_n 3, 1) := by decide +kernel
theorem dX8_tileOf_55 : decode cX8_tileOf 55 = .ok (.iadd, 1) := by decide +kernel
theorem dX8_tileOf_56 : decode cX8_tileOf 56 = .ok (.aload_n 0, 1) := by decide +kernel
theorem dX8_tileOf_57 : decode cX8_tileOf 57 = .ok (.getfield 7, 3) := by decide +kernel
theorem dX8_tileOf_60 : decode cX8_tileOf 60 = .ok (.idiv, 1) := by decide +kernel
theorem dX8_tileOf_61 : decode cX8_tileOf 61 = .ok (.iadd, 1) := by decide +kernel
theorem dX8_tileOf_62 : decode cX8_tileOf 62 = .ok (.ireturn, 1) := by decide +kernel
set_option maxRecDepth 20000 in
theorem ggX8_isSame_X8_isEdge : GoodIn wsX8_isSame wsX8_isEdge := goodIn_r _ [5, 6, 14, 15, 16, 17, 18, 19, 20, 21, 22, 23, 24, 25, 26, 27, 28, 29, 30, 31, 32, 33, 34, 35, 36, 37, 38, 39, 40, 41, 42, 43, 44] (by decide +kernel) (by decide +kernel)
set_option maxRecDepth 20000 in
theorem gX8_isSame_X8_isEdge : GoodIn wsX8_isSame (wsV RX8 86 RX8 yX8_isEdge wsX8_isEdge) := goodIn_app (goodIn_of _ (by decide +kernel)) ggX8_isSame_X8_isEdge
set_option maxRecDepth 20000 in
theorem ggX8_isSame_X8_tileOf : GoodIn wsX8_isSame wsX8_tileOf := goodIn_r _ [10, 6, 11, 12, 13, 14, 15, 16, 17, 18, 19, 20, 21, 22, 23, 24, 25, 26, 27, 28, 29, 30, 31, 32, 33, 34, 35, 36, 37, 38, 39, 40, 41, 42, 43, 44] (by decide +kernel) (by decide +kernel)
set_option maxRecDepth 20000 in
theorem gX8_isSame_X8_tileOf : GoodIn wsX8_isSame (wsV RX8 90 RX8 yX8_tileOf wsX8_tileOf) := goodIn_app (goodIn_of _ (by decide +kernel)) ggX8_isSame_X8_tileOf
theorem dX8_isSame_0 : decode cX8_isSame 0 = .ok (.iload_n 1, 1) := by decide +kernel
theorem dX8_isSame_1 : decode cX8_isSame 1 = .ok (.iload_n 2, 1) := by decide +kernel
theorem dX8_isSame_2 : decode cX8_isSame 2 = .ok (.if_icmp .eq 32, 3) := by decide +kernel
theorem dX8_isSame_5 : decode cX8_isSame 5 = .ok (.aload_n 0, 1) := by decide +kernel
theorem dX8_isSame_6 : decode cX8_isSame 6 = .ok (.iload_n 1, 1) := by decide +kernel
theorem dX8_isSame_7 : decode cX8_isSame 7 = .ok (.invokevirtual 86, 3) := by decide +kernel
theorem dX8_isSame_10 : decode cX8_isSame 10 = .ok (.ifCond .ne 28, 3) := by decide +kernel
theorem dX8_isSame_13 : decode cX8_isSame 13 = .ok (.aload_n 0, 1) := by decide +kernel
theorem dX8_isSame_14 : decode cX8_isSame 14 = .ok (.iload_n 2, 1) := by decide +kernel
theorem dX8_isSame_15 : decode cX8_isSame 15 = .ok (.invokevirtual 86, 3) := by decide +kernel
theorem dX8_isSame_18 : decode cX8_isSame 18 = .ok (.ifCond .ne 20, 3) := by decide +kernel
theorem dX8_isSame_21 : decode cX8_isSame 21 = .ok (.aload_n 0, 1) := by decide +kernel
theorem dX8_isSame_22 : decode cX8_isSame 22 = .ok (.iload_n 1, 1) := by decide +kernel
theorem dX8_isSame_23 : decode cX8_isSame 23 = .ok (.invokevirtual 90, 3) := by decide +kernel
theorem dX8_isSame_26 : decode cX8_isSame 26 = .ok (.aload_n 0, 1) := by decide +kernel
theorem dX8_isSame_27 : decode cX8_isSame 27 = .ok (.iload_n 2, 1) := by decide +kernel
theorem dX8_isSame_28 : decode cX8_isSame 28 = .ok (.invokevirtual 90, 3) := by decide +kernel
theorem dX8_isSame_31 : decode cX8_isSame 31 = .ok (.if_icmp .ne 7, 3) := by decide +kernel
theorem dX8_isSame_34 : decode cX8_isSame 34 = .ok (.iconst 1, 1) := by decide +kernel
theorem dX8_isSame_35 : decode cX8_isSame 35 = .ok (.goto 4, 3) := by decide +kernel
theorem dX8_isSame_38 : decode cX8_isSame 38 = .ok (.iconst 0, 1) := by decide +kernel
theorem dX8_isSame_39 : decode cX8_isSame 39 = .ok (.ireturn, 1) := by decide +kernel
set_option maxRecDepth 20000 in
theorem ggX8_plans_X8_isBarred : GoodIn wsX8_plans wsX8_isBarred := goodIn_r _ [16, 17, 18, 51, 52, 53, 54, 55, 56, 57, 58, 59, 60, 61, 62, 63, 64, 65, 66, 67, 68, 69, 70, 71, 72, 73, 74, 75, 76, 77, 78, 79, 80, 81] (by decide +kernel) (by decide +kernel)
set_option maxRecDepth 20000 in
theorem gX8_plans_X8_isBarred : GoodIn wsX8_plans (wsV RX8 97 RX8 yX8_isBarred wsX8_isBarred) := goodIn_app (goodIn_of _ (by decide +kernel)) ggX8_plans_X8_isBarred
set_option maxRecDepth 20000 in
theorem ggX8_plans_X8_isSame : GoodIn wsX8_plans wsX8_isSame := goodIn_r _ [22, 23, 24, 25, 15, 26, 27, 28, 29, 30, 31, 11, 32, 10, 51, 52, 53, 54, 55, 56, 57, 58, 59, 60, 61, 62, 63, 64, 65, 66, 67, 68, 69, 70, 71, 72, 73, 74, 75, 76, 77, 78, 79, 80, 81] (by decide +kernel) (by decide +kernel)
set_option maxRecDepth 20000 in
theorem gX8_plans_X8_isSame : GoodIn wsX8_plans (wsV RX8 100 RX8 yX8_isSame wsX8_isSame) := goodIn_app (goodIn_of _ (by decide +kernel)) ggX8_plans_X8_isSame
set_option maxRecDepth 20000 in
theorem ggX8_plans_X8_isEdge : GoodIn wsX8_plans wsX8_isEdge := goodIn_r _ [26, 27, 51, 52, 53, 54, 55, 56, 57, 58, 59, 60, 61, 62, 63, 64, 65, 66, 67, 68, 69, 70, 71, 72, 73, 74, 75, 76, 77, 78, 79, 80, 81] (by decide +kernel) (by decide +kernel)
set_option maxRecDepth 20000 in
theorem gX8_plans_X8_isEdge : GoodIn wsX8_plans (wsV RX8 86 RX8 yX8_isEdge wsX8_isEdge) := goodIn_app (goodIn_of _ (by decide +kernel)) ggX8_plans_X8_isEdge
set_option maxRecDepth 20000 in
theorem ggX8_plans_X8_cuts : GoodIn wsX8_plans wsX8_cuts := goodIn_r _ [36, 37, 38, 1, 39, 9, 6, 5, 8, 7, 10, 11, 40, 41, 42, 43, 44, 45, 15, 46, 47, 48, 49, 50, 51, 52, 53, 54, 55, 56, 57, 58, 59, 60, 61, 62, 63, 64, 65, 66, 67, 68, 69, 70, 71, 72, 73, 74, 75, 76, 77, 78, 79, 80, 81] (by decide +kernel) (by decide +kernel)
set_option maxRecDepth 20000 in
theorem gX8_plans_X8_cuts : GoodIn wsX8_plans (wsV RX8 104 RX8 yX8_cuts wsX8_cuts) := goodIn_app (goodIn_of _ (by decide +kernel)) ggX8_plans_X8_cuts
theorem dX8_plans_0 : decode cX8_plans 0 = .ok (.aload_n 0, 1) := by decide +kernel
theorem dX8_plans_1 : decode cX8_plans 1 = .ok (.iconst 0, 1) := by decide +kernel
theorem dX8_plans_2 : decode cX8_plans 2 = .ok (.putfield 94, 3) := by decide +kernel
theorem dX8_plans_5 : decode cX8_plans 5 = .ok (.iconst 0, 1) := by decide +kernel
theorem dX8_plans_6 : decode cX8_plans 6 = .ok (.istore_n 1, 1) := by decide +kernel
theorem dX8_plans_7 : decode cX8_plans 7 = .ok (.iload_n 1, 1) := by decide +kernel
theorem dX8_plans_8 : decode cX8_plans 8 = .ok (.bipush 96, 2) := by decide +kernel
theorem dX8_plans_10 : decode cX8_plans 10 = .ok (.if_icmp .ge 16, 3) := by decide +kernel
theorem dX8_plans_13 : decode cX8_plans 13 = .ok (.aload_n 0, 1) := by decide +kernel
theorem dX8_plans_14 : decode cX8_plans 14 = .ok (.getfield 47, 3) := by decide +kernel
theorem dX8_plans_17 : decode cX8_plans 17 = .ok (.iload_n 1, 1) := by decide +kernel
theorem dX8_plans_18 : decode cX8_plans 18 = .ok (.iconst (-1), 1) := by decide +kernel
theorem dX8_plans_19 : decode cX8_plans 19 = .ok (.iastore, 1) := by decide +kernel
theorem dX8_plans_20 : decode cX8_plans 20 = .ok (.iinc 1 1, 3) := by decide +kernel
theorem dX8_plans_23 : decode cX8_plans 23 = .ok (.goto (-16), 3) := by decide +kernel
theorem dX8_plans_26 : decode cX8_plans 26 = .ok (.iconst 0, 1) := by decide +kernel
theorem dX8_plans_27 : decode cX8_plans 27 = .ok (.istore_n 1, 1) := by decide +kernel
theorem dX8_plans_28 : decode cX8_plans 28 = .ok (.iload_n 1, 1) := by decide +kernel
theorem dX8_plans_29 : decode cX8_plans 29 = .ok (.bipush 96, 2) := by decide +kernel
theorem dX8_plans_31 : decode cX8_plans 31 = .ok (.if_icmp .ge 250, 3) := by decide +kernel
theorem dX8_plans_34 : decode cX8_plans 34 = .ok (.aload_n 0, 1) := by decide +kernel
theorem dX8_plans_35 : decode cX8_plans 35 = .ok (.iload_n 1, 1) := by decide +kernel
theorem dX8_plans_36 : decode cX8_plans 36 = .ok (.invokevirtual 97, 3) := by decide +kernel
theorem dX8_plans_39 : decode cX8_plans 39 = .ok (.ifCond .ne 236, 3) := by decide +kernel
theorem dX8_plans_42 : decode cX8_plans 42 = .ok (.aload_n 0, 1) := by decide +kernel
theorem dX8_plans_43 : decode cX8_plans 43 = .ok (.getfield 47, 3) := by decide +kernel
theorem dX8_plans_46 : decode cX8_plans 46 = .ok (.iload_n 1, 1) := by decide +kernel
theorem dX8_plans_47 : decode cX8_plans 47 = .ok (.iaload, 1) := by decide +kernel
theorem dX8_plans_48 : decode cX8_plans 48 = .ok (.ifCond .ge 227, 3) := by decide +kernel
theorem dX8_plans_51 : decode cX8_plans 51 = .ok (.aload_n 0, 1) := by decide +kernel
theorem dX8_plans_52 : decode cX8_plans 52 = .ok (.getfield 94, 3) := by decide +kernel
theorem dX8_plans_55 : decode cX8_plans 55 = .ok (.istore_n 2, 1) := by decide +kernel
theorem dX8_plans_56 : decode cX8_plans 56 = .ok (.aload_n 0, 1) := by decide +kernel
theorem dX8_plans_57 : decode cX8_plans 57 = .ok (.dup, 1) := by decide +kernel
theorem dX8_plans_58 : decode cX8_plans 58 = .ok (.getfield 94, 3) := by decide +kernel
theorem dX8_plans_61 : decode cX8_plans 61 = .ok (.iconst 1, 1) := by decide +kernel
theorem dX8_plans_62 : decode cX8_plans 62 = .ok (.iadd, 1) := by decide +kernel
theorem dX8_plans_63 : decode cX8_plans 63 = .ok (.putfield 94, 3) := by decide +kernel
theorem dX8_plans_66 : decode cX8_plans 66 = .ok (.aload_n 0, 1) := by decide +kernel
theorem dX8_plans_67 : decode cX8_plans 67 = .ok (.getfield 26, 3) := by decide +kernel
theorem dX8_plans_70 : decode cX8_plans 70 = .ok (.iload_n 2, 1) := by decide +kernel
theorem dX8_plans_71 : decode cX8_plans 71 = .ok (.iload_n 1, 1) := by decide +kernel
theorem dX8_plans_72 : decode cX8_plans 72 = .ok (.iastore, 1) := by decide +kernel
theorem dX8_plans_73 : decode cX8_plans 73 = .ok (.aload_n 0, 1) := by decide +kernel
theorem dX8_plans_74 : decode cX8_plans 74 = .ok (.getfield 29, 3) := by decide +kernel
theorem dX8_plans_77 : decode cX8_plans 77 = .ok (.iload_n 2, 1) := by decide +kernel
theorem dX8_plans_78 : decode cX8_plans 78 = .ok (.iconst 0, 1) := by decide +kernel
theorem dX8_plans_79 : decode cX8_plans 79 = .ok (.iastore, 1) := by decide +kernel
theorem dX8_plans_80 : decode cX8_plans 80 = .ok (.aload_n 0, 1) := by decide +kernel
theorem dX8_plans_81 : decode cX8_plans 81 = .ok (.getfield 35, 3) := by decide +kernel
theorem dX8_plans_84 : decode cX8_plans 84 = .ok (.iload_n 2, 1) := by decide +kernel
theorem dX8_plans_85 : decode cX8_plans 85 = .ok (.bipush 12, 2) := by decide +kernel
theorem dX8_plans_87 : decode cX8_plans 87 = .ok (.iastore, 1) := by decide +kernel
theorem dX8_plans_88 : decode cX8_plans 88 = .ok (.aload_n 0, 1) := by decide +kernel
theorem dX8_plans_89 : decode cX8_plans 89 = .ok (.getfield 38, 3) := by decide +kernel
theorem dX8_plans_92 : decode cX8_plans 92 = .ok (.iload_n 2, 1) := by decide +kernel
theorem dX8_plans_93 : decode cX8_plans 93 = .ok (.iconst (-1), 1) := by decide +kernel
theorem dX8_plans_94 : decode cX8_plans 94 = .ok (.iastore, 1) := by decide +kernel
theorem dX8_plans_95 : decode cX8_plans 95 = .ok (.aload_n 0, 1) := by decide +kernel
theorem dX8_plans_96 : decode cX8_plans 96 = .ok (.getfield 41, 3) := by decide +kernel
theorem dX8_plans_99 : decode cX8_plans 99 = .ok (.iload_n 2, 1) := by decide +kernel
theorem dX8_plans_100 : decode cX8_plans 100 = .ok (.iload_n 1, 1) := by decide +kernel
theorem dX8_plans_101 : decode cX8_plans 101 = .ok (.bipush 12, 2) := by decide +kernel
theorem dX8_plans_103 : decode cX8_plans 103 = .ok (.idiv, 1) := by decide +kernel
theorem dX8_plans_104 : decode cX8_plans 104 = .ok (.iastore, 1) := by decide +kernel
theorem dX8_plans_105 : decode cX8_plans 105 = .ok (.aload_n 0, 1) := by decide +kernel
theorem dX8_plans_106 : decode cX8_plans 106 = .ok (.getfield 44, 3) := by decide +kernel
theorem dX8_plans_109 : decode cX8_plans 109 = .ok (.iload_n 2, 1) := by decide +kernel
theorem dX8_plans_110 : decode cX8_plans 110 = .ok (.iconst (-1), 1) := by decide +kernel
theorem dX8_plans_111 : decode cX8_plans 111 = .ok (.iastore, 1) := by decide +kernel
theorem dX8_plans_112 : decode cX8_plans 112 = .ok (.iload_n 1, 1) := by decide +kernel
theorem dX8_plans_113 : decode cX8_plans 113 = .ok (.istore_n 3, 1) := by decide +kernel
theorem dX8_plans_114 : decode cX8_plans 114 = .ok (.iload_n 3, 1) := by decide +kernel
theorem dX8_plans_115 : decode cX8_plans 115 = .ok (.bipush 96, 2) := by decide +kernel
theorem dX8_plans_117 : decode cX8_plans 117 = .ok (.if_icmp .ge 117, 3) := by decide +kernel
theorem dX8_plans_120 : decode cX8_plans 120 = .ok (.aload_n 0, 1) := by decide +kernel
theorem dX8_plans_121 : decode cX8_plans 121 = .ok (.iload_n 3, 1) := by decide +kernel
theorem dX8_plans_122 : decode cX8_plans 122 = .ok (.invokevirtual 97, 3) := by decide +kernel
theorem dX8_plans_125 : decode cX8_plans 125 = .ok (.ifCond .ne 103, 3) := by decide +kernel
theorem dX8_plans_128 : decode cX8_plans 128 = .ok (.aload_n 0, 1) := by decide +kernel
theorem dX8_plans_129 : decode cX8_plans 129 = .ok (.iload_n 1, 1) := by decide +kernel
theorem dX8_plans_130 : decode cX8_plans 130 = .ok (.iload_n 3, 1) := by decide +kernel
theorem dX8_plans_131 : decode cX8_plans 131 = .ok (.invokevirtual 100, 3) := by decide +kernel
theorem dX8_plans_134 : decode cX8_plans 134 = .ok (.ifCond .eq 94, 3) := by decide +kernel
theorem dX8_plans_137 : decode cX8_plans 137 = .ok (.aload_n 0, 1) := by decide +kernel
theorem dX8_plans_138 : decode cX8_plans 138 = .ok (.getfield 47, 3) := by decide +kernel
theorem dX8_plans_141 : decode cX8_plans 141 = .ok (.iload_n 3, 1) := by decide +kernel
theorem dX8_plans_142 : decode cX8_plans 142 = .ok (.iload_n 2, 1) := by decide +kernel
theorem dX8_plans_143 : decode cX8_plans 143 = .ok (.iastore, 1) := by decide +kernel
theorem dX8_plans_144 : decode cX8_plans 144 = .ok (.aload_n 0, 1) := by decide +kernel
theorem dX8_plans_145 : decode cX8_plans 145 = .ok (.getfield 29, 3) := by decide +kernel
theorem dX8_plans_148 : decode cX8_plans 148 = .ok (.iload_n 2, 1) := by decide +kernel
theorem dX8_plans_149 : decode cX8_plans 149 = .ok (.dup2, 1) := by decide +kernel
theorem dX8_plans_150 : decode cX8_plans 150 = .ok (.iaload, 1) := by decide +kernel
theorem dX8_plans_151 : decode cX8_plans 151 = .ok (.iconst 1, 1) := by decide +kernel
theorem dX8_plans_152 : decode cX8_plans 152 = .ok (.iadd, 1) := by decide +kernel
theorem dX8_plans_153 : decode cX8_plans 153 = .ok (.iastore, 1) := by decide +kernel
theorem dX8_plans_154 : decode cX8_plans 154 = .ok (.aload_n 0, 1) := by decide +kernel
theorem dX8_plans_155 : decode cX8_plans 155 = .ok (.getfield 35, 3) := by decide +kernel
theorem dX8_plans_158 : decode cX8_plans 158 = .ok (.iload_n 2, 1) := by decide +kernel
theorem dX8_plans_159 : decode cX8_plans 159 = .ok (.iload_n 3, 1) := by decide +kernel
theorem dX8_plans_160 : decode cX8_plans 160 = .ok (.bipush 12, 2) := by decide +kernel
theorem dX8_plans_162 : decode cX8_plans 162 = .ok (.irem, 1) := by decide +kernel
theorem dX8_plans_163 : decode cX8_plans 163 = .ok (.aload_n 0, 1) := by decide +kernel
theorem dX8_plans_164 : decode cX8_plans 164 = .ok (.getfield 35, 3) := by decide +kernel
theorem dX8_plans_167 : decode cX8_plans 167 = .ok (.iload_n 2, 1) := by decide +kernel
theorem dX8_plans_168 : decode cX8_plans 168 = .ok (.iaload, 1) := by decide +kernel
theorem dX8_plans_169 : decode cX8_plans 169 = .ok (.if_icmp .ge 10, 3) := by decide +kernel
theorem dX8_plans_172 : decode cX8_plans 172 = .ok (.iload_n 3, 1) := by decide +kernel
theorem dX8_plans_173 : decode cX8_plans 173 = .ok (.bipush 12, 2) := by decide +kernel
theorem dX8_plans_175 : decode cX8_plans 175 = .ok (.irem, 1) := by decide +kernel
theorem dX8_plans_176 : decode cX8_plans 176 = .ok (.goto 9, 3) := by decide +kernel
theorem dX8_plans_179 : decode cX8_plans 179 = .ok (.aload_n 0, 1) := by decide +kernel
theorem dX8_plans_180 : decode cX8_plans 180 = .ok (.getfield 35, 3) := by decide +kernel
theorem dX8_plans_183 : decode cX8_plans 183 = .ok (.iload_n 2, 1) := by decide +kernel
theorem dX8_plans_184 : decode cX8_plans 184 = .ok (.iaload, 1) := by decide +kernel
theorem dX8_plans_185 : decode cX8_plans 185 = .ok (.iastore, 1) := by decide +kernel
theorem dX8_plans_186 : decode cX8_plans 186 = .ok (.aload_n 0, 1) := by decide +kernel
theorem dX8_plans_187 : decode cX8_plans 187 = .ok (.getfield 38, 3) := by decide +kernel
theorem dX8_plans_190 : decode cX8_plans 190 = .ok (.iload_n 2, 1) := by decide +kernel
theorem dX8_plans_191 : decode cX8_plans 191 = .ok (.iload_n 3, 1) := by decide +kernel
theorem dX8_plans_192 : decode cX8_plans 192 = .ok (.bipush 12, 2) := by decide +kernel
theorem dX8_plans_194 : decode cX8_plans 194 = .ok (.irem, 1) := by decide +kernel
theorem dX8_plans_195 : decode cX8_plans 195 = .ok (.aload_n 0, 1) := by decide +kernel
theorem dX8_plans_196 : decode cX8_plans 196 = .ok (.getfield 38, 3) := by decide +kernel
theorem dX8_plans_199 : decode cX8_plans 199 = .ok (.iload_n 2, 1) := by decide +kernel
theorem dX8_plans_200 : decode cX8_plans 200 = .ok (.iaload, 1) := by decide +kernel
theorem dX8_plans_201 : decode cX8_plans 201 = .ok (.if_icmp .le 10, 3) := by decide +kernel
theorem dX8_plans_204 : decode cX8_plans 204 = .ok (.iload_n 3, 1) := by decide +kernel
theorem dX8_plans_205 : decode cX8_plans 205 = .ok (.bipush 12, 2) := by decide +kernel
theorem dX8_plans_207 : decode cX8_plans 207 = .ok (.irem, 1) := by decide +kernel
theorem dX8_plans_208 : decode cX8_plans 208 = .ok (.goto 9, 3) := by decide +kernel
theorem dX8_plans_211 : decode cX8_plans 211 = .ok (.aload_n 0, 1) := by decide +kernel
theorem dX8_plans_212 : decode cX8_plans 212 = .ok (.getfield 38, 3) := by decide +kernel
theorem dX8_plans_215 : decode cX8_plans 215 = .ok (.iload_n 2, 1) := by decide +kernel
theorem dX8_plans_216 : decode cX8_plans 216 = .ok (.iaload, 1) := by decide +kernel
theorem dX8_plans_217 : decode cX8_plans 217 = .ok (.iastore, 1) := by decide +kernel
theorem dX8_plans_218 : decode cX8_plans 218 = .ok (.aload_n 0, 1) := by decide +kernel
theorem dX8_plans_219 : decode cX8_plans 219 = .ok (.getfield 44, 3) := by decide +kernel
theorem dX8_plans_222 : decode cX8_plans 222 = .ok (.iload_n 2, 1) := by decide +kernel
theorem dX8_plans_223 : decode cX8_plans 223 = .ok (.iload_n 3, 1) := by decide +kernel
theorem dX8_plans_224 : decode cX8_plans 224 = .ok (.bipush 12, 2) := by decide +kernel
theorem dX8_plans_226 : decode cX8_plans 226 = .ok (.idiv, 1) := by decide +kernel
theorem dX8_plans_227 : decode cX8_plans 227 = .ok (.iastore, 1) := by decide +kernel
theorem dX8_plans_228 : decode cX8_plans 228 = .ok (.iinc 3 1, 3) := by decide +kernel
theorem dX8_plans_231 : decode cX8_plans 231 = .ok (.goto (-117), 3) := by decide +kernel
theorem dX8_plans_234 : decode cX8_plans 234 = .ok (.aload_n 0, 1) := by decide +kernel
theorem dX8_plans_235 : decode cX8_plans 235 = .ok (.getfield 23, 3) := by decide +kernel
theorem dX8_plans_238 : decode cX8_plans 238 = .ok (.iload_n 2, 1) := by decide +kernel
theorem dX8_plans_239 : decode cX8_plans 239 = .ok (.aload_n 0, 1) := by decide +kernel
theorem dX8_plans_240 : decode cX8_plans 240 = .ok (.iload_n 1, 1) := by decide +kernel
theorem dX8_plans_241 : decode cX8_plans 241 = .ok (.invokevirtual 86, 3) := by decide +kernel
theorem dX8_plans_244 : decode cX8_plans 244 = .ok (.ifCond .eq 7, 3) := by decide +kernel
theorem dX8_plans_247 : decode cX8_plans 247 = .ok (.iconst 2, 1) := by decide +kernel
theorem dX8_plans_248 : decode cX8_plans 248 = .ok (.goto 26, 3) := by decide +kernel
theorem dX8_plans_251 : decode cX8_plans 251 = .ok (.aload_n 0, 1) := by decide +kernel
theorem dX8_plans_252 : decode cX8_plans 252 = .ok (.getfield 29, 3) := by decide +kernel
theorem dX8_plans_255 : decode cX8_plans 255 = .ok (.iload_n 2, 1) := by decide +kernel
theorem dX8_plans_256 : decode cX8_plans 256 = .ok (.iaload, 1) := by decide +kernel
theorem dX8_plans_257 : decode cX8_plans 257 = .ok (.aload_n 0, 1) := by decide +kernel
theorem dX8_plans_258 : decode cX8_plans 258 = .ok (.getfield 7, 3) := by decide +kernel
theorem dX8_plans_261 : decode cX8_plans 261 = .ok (.aload_n 0, 1) := by decide +kernel
theorem dX8_plans_262 : decode cX8_plans 262 = .ok (.getfield 13, 3) := by decide +kernel
theorem dX8_plans_265 : decode cX8_plans 265 = .ok (.imul, 1) := by decide +kernel
theorem dX8_plans_266 : decode cX8_plans 266 = .ok (.if_icmp .ne 7, 3) := by decide +kernel
theorem dX8_plans_269 : decode cX8_plans 269 = .ok (.iconst 0, 1) := by decide +kernel
theorem dX8_plans_270 : decode cX8_plans 270 = .ok (.goto 4, 3) := by decide +kernel
theorem dX8_plans_273 : decode cX8_plans 273 = .ok (.iconst 1, 1) := by decide +kernel
theorem dX8_plans_274 : decode cX8_plans 274 = .ok (.iastore, 1) := by decide +kernel
theorem dX8_plans_275 : decode cX8_plans 275 = .ok (.iinc 1 1, 3) := by decide +kernel
theorem dX8_plans_278 : decode cX8_plans 278 = .ok (.goto (-250), 3) := by decide +kernel
theorem dX8_plans_281 : decode cX8_plans 281 = .ok (.aload_n 0, 1) := by decide +kernel
theorem dX8_plans_282 : decode cX8_plans 282 = .ok (.invokevirtual 104, 3) := by decide +kernel
theorem dX8_plans_285 : decode cX8_plans 285 = .ok (.return_, 1) := by decide +kernel
theorem dX8_bestRest_0 : decode cX8_bestRest 0 = .ok (.iconst (-1), 1) := by decide +kernel
theorem dX8_bestRest_1 : decode cX8_bestRest 1 = .ok (.istore_n 3, 1) := by decide +kernel
theorem dX8_bestRest_2 : decode cX8_bestRest 2 = .ok (.iconst 0, 1) := by decide +kernel
theorem dX8_bestRest_3 : decode cX8_bestRest 3 = .ok (.istore 4, 2) := by decide +kernel
theorem dX8_bestRest_5 : decode cX8_bestRest 5 = .ok (.iload 4, 2) := by decide +kernel
theorem dX8_bestRest_7 : decode cX8_bestRest 7 = .ok (.aload_n 0, 1) := by decide +kernel
theorem dX8_bestRest_8 : decode cX8_bestRest 8 = .ok (.getfield 107, 3) := by decide +kernel
theorem dX8_bestRest_11 : decode cX8_bestRest 11 = .ok (.if_icmp .ge 85, 3) := by decide +kernel
theorem dX8_bestRest_14 : decode cX8_bestRest 14 = .ok (.aload_n 0, 1) := by decide +kernel
theorem dX8_bestRest_15 : decode cX8_bestRest 15 = .ok (.getfield 50, 3) := by decide +kernel
theorem dX8_bestRest_18 : decode cX8_bestRest 18 = .ok (.iload 4, 2) := by decide +kernel
theorem dX8_bestRest_20 : decode cX8_bestRest 20 = .ok (.iaload, 1) := by decide +kernel
theorem dX8_bestRest_21 : decode cX8_bestRest 21 = .ok (.iload_n 1, 1) := by decide +kernel
theorem dX8_bestRest_22 : decode cX8_bestRest 22 = .ok (.if_icmp .lt 18, 3) := by decide +kernel
theorem dX8_bestRest_25 : decode cX8_bestRest 25 = .ok (.aload_n 0, 1) := by decide +kernel
theorem dX8_bestRest_26 : decode cX8_bestRest 26 = .ok (.getfield 53, 3) := by decide +kernel
theorem dX8_bestRest_29 : decode cX8_bestRest 29 = .ok (.iload 4, 2) := by decide +kernel
theorem dX8_bestRest_31 : decode cX8_bestRest 31 = .ok (.iaload, 1) := by decide +kernel
theorem dX8_bestRest_32 : decode cX8_bestRest 32 = .ok (.iload_n 2, 1) := by decide +kernel
theorem dX8_bestRest_33 : decode cX8_bestRest 33 = .ok (.if_icmp .lt 7, 3) := by decide +kernel
theorem dX8_bestRest_36 : decode cX8_bestRest 36 = .ok (.iconst 1, 1) := by decide +kernel
theorem dX8_bestRest_37 : decode cX8_bestRest 37 = .ok (.goto 4, 3) := by decide +kernel
theorem dX8_bestRest_40 : decode cX8_bestRest 40 = .ok (.iconst 0, 1) := by decide +kernel
theorem dX8_bestRest_41 : decode cX8_bestRest 41 = .ok (.istore 5, 2) := by decide +kernel
theorem dX8_bestRest_43 : decode cX8_bestRest 43 = .ok (.iload 5, 2) := by decide +kernel
theorem dX8_bestRest_45 : decode cX8_bestRest 45 = .ok (.ifCond .eq 43, 3) := by decide +kernel
theorem dX8_bestRest_48 : decode cX8_bestRest 48 = .ok (.iload_n 3, 1) := by decide +kernel
theorem dX8_bestRest_49 : decode cX8_bestRest 49 = .ok (.ifCond .lt 34, 3) := by decide +kernel
theorem dX8_bestRest_52 : decode cX8_bestRest 52 = .ok (.aload_n 0, 1) := by decide +kernel
theorem dX8_bestRest_53 : decode cX8_bestRest 53 = .ok (.getfield 50, 3) := by decide +kernel
theorem dX8_bestRest_56 : decode cX8_bestRest 56 = .ok (.iload 4, 2) := by decide +kernel
theorem dX8_bestRest_58 : decode cX8_bestRest 58 = .ok (.iaload, 1) := by decide +kernel
theorem dX8_bestRest_59 : decode cX8_bestRest 59 = .ok (.aload_n 0, 1) := by decide +kernel
theorem dX8_bestRest_60 : decode cX8_bestRest 60 = .ok (.getfield 53, 3) := by decide +kernel
theorem dX8_bestRest_63 : decode cX8_bestRest 63 = .ok (.iload 4, 2) := by decide +kernel
theorem dX8_bestRest_65 : decode cX8_bestRest 65 = .ok (.iaload, 1) := by decide +kernel
theorem dX8_bestRest_66 : decode cX8_bestRest 66 = .ok (.imul, 1) := by decide +kernel
theorem dX8_bestRest_67 : decode cX8_bestRest 67 = .ok (.aload_n 0, 1) := by decide +kernel
theorem dX8_bestRest_68 : decode cX8_bestRest 68 = .ok (.getfield 50, 3) := by decide +kernel
theorem dX8_bestRest_71 : decode cX8_bestRest 71 = .ok (.iload_n 3, 1) := by decide +kernel
theorem dX8_bestRest_72 : decode cX8_bestRest 72 = .ok (.iaload, 1) := by decide +kernel
theorem dX8_bestRest_73 : decode cX8_bestRest 73 = .ok (.aload_n 0, 1) := by decide +kernel
theorem dX8_bestRest_74 : decode cX8_bestRest 74 = .ok (.getfield 53, 3) := by decide +kernel
theorem dX8_bestRest_77 : decode cX8_bestRest 77 = .ok (.iload_n 3, 1) := by decide +kernel
theorem dX8_bestRest_78 : decode cX8_bestRest 78 = .ok (.iaload, 1) := by decide +kernel
theorem dX8_bestRest_79 : decode cX8_bestRest 79 = .ok (.imul, 1) := by decide +kernel
theorem dX8_bestRest_80 : decode cX8_bestRest 80 = .ok (.if_icmp .ge 8, 3) := by decide +kernel
theorem dX8_bestRest_83 : decode cX8_bestRest 83 = .ok (.iload 4, 2) := by decide +kernel
theorem dX8_bestRest_85 : decode cX8_bestRest 85 = .ok (.goto 4, 3) := by decide +kernel
theorem dX8_bestRest_88 : decode cX8_bestRest 88 = .ok (.iload_n 3, 1) := by decide +kernel
theorem dX8_bestRest_89 : decode cX8_bestRest 89 = .ok (.istore_n 3, 1) := by decide +kernel
theorem dX8_bestRest_90 : decode cX8_bestRest 90 = .ok (.iinc 4 1, 3) := by decide +kernel
theorem dX8_bestRest_93 : decode cX8_bestRest 93 = .ok (.goto (-88), 3) := by decide +kernel
theorem dX8_bestRest_96 : decode cX8_bestRest 96 = .ok (.iload_n 3, 1) := by decide +kernel
theorem dX8_bestRest_97 : decode cX8_bestRest 97 = .ok (.ireturn, 1) := by decide +kernel
theorem dX8_takeOut_0 : decode cX8_takeOut 0 = .ok (.aload_n 0, 1) := by decide +kernel
theorem dX8_takeOut_1 : decode cX8_takeOut 1 = .ok (.dup, 1) := by decide +kernel
theorem dX8_takeOut_2 : decode cX8_takeOut 2 = .ok (.getfield 107, 3) := by decide +kernel
theorem dX8_takeOut_5 : decode cX8_takeOut 5 = .ok (.iconst 1, 1) := by decide +kernel
theorem dX8_takeOut_6 : decode cX8_takeOut 6 = .ok (.isub, 1) := by decide +kernel
theorem dX8_takeOut_7 : decode cX8_takeOut 7 = .ok (.putfield 107, 3) := by decide +kernel
theorem dX8_takeOut_10 : decode cX8_takeOut 10 = .ok (.iload_n 1, 1) := by decide +kernel
theorem dX8_takeOut_11 : decode cX8_takeOut 11 = .ok (.istore_n 2, 1) := by decide +kernel
theorem dX8_takeOut_12 : decode cX8_takeOut 12 = .ok (.iload_n 2, 1) := by decide +kernel
theorem dX8_takeOut_13 : decode cX8_takeOut 13 = .ok (.aload_n 0, 1) := by decide +kernel
theorem dX8_takeOut_14 : decode cX8_takeOut 14 = .ok (.getfield 107, 3) := by decide +kernel
theorem dX8_takeOut_17 : decode cX8_takeOut 17 = .ok (.if_icmp .ge 51, 3) := by decide +kernel
theorem dX8_takeOut_20 : decode cX8_takeOut 20 = .ok (.aload_n 0, 1) := by decide +kernel
theorem dX8_takeOut_21 : decode cX8_takeOut 21 = .ok (.getfield 50, 3) := by decide +kernel
theorem dX8_takeOut_24 : decode cX8_takeOut 24 = .ok (.iload_n 2, 1) := by decide +kernel
theorem dX8_takeOut_25 : decode cX8_takeOut 25 = .ok (.aload_n 0, 1) := by decide +kernel
theorem dX8_takeOut_26 : decode cX8_takeOut 26 = .ok (.getfield 50, 3) := by decide +kernel
theorem dX8_takeOut_29 : decode cX8_takeOut 29 = .ok (.iload_n 2, 1) := by decide +kernel
theorem dX8_takeOut_30 : decode cX8_takeOut 30 = .ok (.iconst 1, 1) := by decide +kernel
theorem dX8_takeOut_31 : decode cX8_takeOut 31 = .ok (.iadd, 1) := by decide +kernel
theorem dX8_takeOut_32 : decode cX8_takeOut 32 = .ok (.iaload, 1) := by decide +kernel
theorem dX8_takeOut_33 : decode cX8_takeOut 33 = .ok (.iastore, 1) := by decide +kernel
theorem dX8_takeOut_34 : decode cX8_takeOut 34 = .ok (.aload_n 0, 1) := by decide +kernel
theorem dX8_takeOut_35 : decode cX8_takeOut 35 = .ok (.getfield 53, 3) := by decide +kernel
theorem dX8_takeOut_38 : decode cX8_takeOut 38 = .ok (.iload_n 2, 1) := by decide +kernel
theorem dX8_takeOut_39 : decode cX8_takeOut 39 = .ok (.aload_n 0, 1) := by decide +kernel
theorem dX8_takeOut_40 : decode cX8_takeOut 40 = .ok (.getfield 53, 3) := by decide +kernel
theorem dX8_takeOut_43 : decode cX8_takeOut 43 = .ok (.iload_n 2, 1) := by decide +kernel
theorem dX8_takeOut_44 : decode cX8_takeOut 44 = .ok (.iconst 1, 1) := by decide +kernel
theorem dX8_takeOut_45 : decode cX8_takeOut 45 = .ok (.iadd, 1) := by decide +kernel
theorem dX8_takeOut_46 : decode cX8_takeOut 46 = .ok (.iaload, 1) := by decide +kernel
theorem dX8_takeOut_47 : decode cX8_takeOut 47 = .ok (.iastore, 1) := by decide +kernel
theorem dX8_takeOut_48 : decode cX8_takeOut 48 = .ok (.aload_n 0, 1) := by decide +kernel
theorem dX8_takeOut_49 : decode cX8_takeOut 49 = .ok (.getfield 56, 3) := by decide +kernel
theorem dX8_takeOut_52 : decode cX8_takeOut 52 = .ok (.iload_n 2, 1) := by decide +kernel
theorem dX8_takeOut_53 : decode cX8_takeOut 53 = .ok (.aload_n 0, 1) := by decide +kernel
theorem dX8_takeOut_54 : decode cX8_takeOut 54 = .ok (.getfield 56, 3) := by decide +kernel
theorem dX8_takeOut_57 : decode cX8_takeOut 57 = .ok (.iload_n 2, 1) := by decide +kernel
theorem dX8_takeOut_58 : decode cX8_takeOut 58 = .ok (.iconst 1, 1) := by decide +kernel
theorem dX8_takeOut_59 : decode cX8_takeOut 59 = .ok (.iadd, 1) := by decide +kernel
theorem dX8_takeOut_60 : decode cX8_takeOut 60 = .ok (.iaload, 1) := by decide +kernel
theorem dX8_takeOut_61 : decode cX8_takeOut 61 = .ok (.iastore, 1) := by decide +kernel
theorem dX8_takeOut_62 : decode cX8_takeOut 62 = .ok (.iinc 2 1, 3) := by decide +kernel
theorem dX8_takeOut_65 : decode cX8_takeOut 65 = .ok (.goto (-53), 3) := by decide +kernel
theorem dX8_takeOut_68 : decode cX8_takeOut 68 = .ok (.return_, 1) := by decide +kernel
set_option maxRecDepth 20000 in
theorem ggX8_cuts_X8_bestRest : GoodIn wsX8_cuts wsX8_bestRest := goodIn_r _ [19, 1, 13, 14, 24, 25, 26, 27, 28, 29, 30, 31, 32, 33, 34, 35, 36, 37, 38, 39, 40, 41, 42, 43, 44, 45, 46, 47, 48, 49, 50, 51, 52, 53, 54] (by decide +kernel) (by decide +kernel)
set_option maxRecDepth 20000 in
theorem gX8_cuts_X8_bestRest : GoodIn wsX8_cuts (wsV RX8 113 RX8 yX8_bestRest wsX8_bestRest) := goodIn_app (goodIn_of _ (by decide +kernel)) ggX8_cuts_X8_bestRest
set_option maxRecDepth 20000 in
theorem ggX8_cuts_X8_takeOut : GoodIn wsX8_cuts wsX8_takeOut := goodIn_r _ [23, 1, 13, 14, 12, 24, 25, 26, 27, 28, 29, 30, 31, 32, 33, 34, 35, 36, 37, 38, 39, 40, 41, 42, 43, 44, 45, 46, 47, 48, 49, 50, 51, 52, 53, 54] (by decide +kernel) (by decide +kernel)
set_option maxRecDepth 20000 in
theorem gX8_cuts_X8_takeOut : GoodIn wsX8_cuts (wsV RX8 117 RX8 yX8_takeOut wsX8_takeOut) := goodIn_app (goodIn_of _ (by decide +kernel)) ggX8_cuts_X8_takeOut
theorem dX8_cuts_0 : decode cX8_cuts 0 = .ok (.aload_n 0, 1) := by decide +kernel
theorem dX8_cuts_1 : decode cX8_cuts 1 = .ok (.iconst 0, 1) := by decide +kernel
theorem dX8_cuts_2 : decode cX8_cuts 2 = .ok (.putfield 107, 3) := by decide +kernel
theorem dX8_cuts_5 : decode cX8_cuts 5 = .ok (.aload_n 0, 1) := by decide +kernel
theorem dX8_cuts_6 : decode cX8_cuts 6 = .ok (.iconst 0, 1) := by decide +kernel
theorem dX8_cuts_7 : decode cX8_cuts 7 = .ok (.putfield 110, 3) := by decide +kernel
theorem dX8_cuts_10 : decode cX8_cuts 10 = .ok (.iconst 0, 1) := by decide +kernel
theorem dX8_cuts_11 : decode cX8_cuts 11 = .ok (.istore_n 1, 1) := by decide +kernel
theorem dX8_cuts_12 : decode cX8_cuts 12 = .ok (.iload_n 1, 1) := by decide +kernel
theorem dX8_cuts_13 : decode cX8_cuts 13 = .ok (.aload_n 0, 1) := by decide +kernel
theorem dX8_cuts_14 : decode cX8_cuts 14 = .ok (.getfield 94, 3) := by decide +kernel
theorem dX8_cuts_17 : decode cX8_cuts 17 = .ok (.if_icmp .ge 254, 3) := by decide +kernel
theorem dX8_cuts_20 : decode cX8_cuts 20 = .ok (.aload_n 0, 1) := by decide +kernel
theorem dX8_cuts_21 : decode cX8_cuts 21 = .ok (.getfield 32, 3) := by decide +kernel
theorem dX8_cuts_24 : decode cX8_cuts 24 = .ok (.iload_n 1, 1) := by decide +kernel
theorem dX8_cuts_25 : decode cX8_cuts 25 = .ok (.iconst (-1), 1) := by decide +kernel
theorem dX8_cuts_26 : decode cX8_cuts 26 = .ok (.iastore, 1) := by decide +kernel
theorem dX8_cuts_27 : decode cX8_cuts 27 = .ok (.aload_n 0, 1) := by decide +kernel
theorem dX8_cuts_28 : decode cX8_cuts 28 = .ok (.dup, 1) := by decide +kernel
theorem dX8_cuts_29 : decode cX8_cuts 29 = .ok (.getfield 110, 3) := by decide +kernel
theorem dX8_cuts_32 : decode cX8_cuts 32 = .ok (.aload_n 0, 1) := by decide +kernel
theorem dX8_cuts_33 : decode cX8_cuts 33 = .ok (.getfield 23, 3) := by decide +kernel
theorem dX8_cuts_36 : decode cX8_cuts 36 = .ok (.iload_n 1, 1) := by decide +kernel
theorem dX8_cuts_37 : decode cX8_cuts 37 = .ok (.iaload, 1) := by decide +kernel
theorem dX8_cuts_38 : decode cX8_cuts 38 = .ok (.ifCond .ne 7, 3) := by decide +kernel
theorem dX8_cuts_41 : decode cX8_cuts 41 = .ok (.iconst 1, 1) := by decide +kernel
theorem dX8_cuts_42 : decode cX8_cuts 42 = .ok (.goto 4, 3) := by decide +kernel
theorem dX8_cuts_45 : decode cX8_cuts 45 = .ok (.iconst 0, 1) := by decide +kernel
theorem dX8_cuts_46 : decode cX8_cuts 46 = .ok (.iadd, 1) := by decide +kernel
theorem dX8_cuts_47 : decode cX8_cuts 47 = .ok (.putfield 110, 3) := by decide +kernel
theorem dX8_cuts_50 : decode cX8_cuts 50 = .ok (.aload_n 0, 1) := by decide +kernel
theorem dX8_cuts_51 : decode cX8_cuts 51 = .ok (.getfield 23, 3) := by decide +kernel
theorem dX8_cuts_54 : decode cX8_cuts 54 = .ok (.iload_n 1, 1) := by decide +kernel
theorem dX8_cuts_55 : decode cX8_cuts 55 = .ok (.iaload, 1) := by decide +kernel
theorem dX8_cuts_56 : decode cX8_cuts 56 = .ok (.iconst 1, 1) := by decide +kernel
theorem dX8_cuts_57 : decode cX8_cuts 57 = .ok (.if_icmp .ne 208, 3) := by decide +kernel
theorem dX8_cuts_60 : decode cX8_cuts 60 = .ok (.aload_n 0, 1) := by decide +kernel
theorem dX8_cuts_61 : decode cX8_cuts 61 = .ok (.getfield 38, 3) := by decide +kernel
theorem dX8_cuts_64 : decode cX8_cuts 64 = .ok (.iload_n 1, 1) := by decide +kernel
theorem dX8_cuts_65 : decode cX8_cuts 65 = .ok (.iaload, 1) := by decide +kernel
theorem dX8_cuts_66 : decode cX8_cuts 66 = .ok (.aload_n 0, 1) := by decide +kernel
theorem dX8_cuts_67 : decode cX8_cuts 67 = .ok (.getfield 35, 3) := by decide +kernel
theorem dX8_cuts_70 : decode cX8_cuts 70 = .ok (.iload_n 1, 1) := by decide +kernel
theorem dX8_cuts_71 : decode cX8_cuts 71 = .ok (.iaload, 1) := by decide +kernel
theorem dX8_cuts_72 : decode cX8_cuts 72 = .ok (.isub, 1) := by decide +kernel
theorem dX8_cuts_73 : decode cX8_cuts 73 = .ok (.iconst 1, 1) := by decide +kernel
theorem dX8_cuts_74 : decode cX8_cuts 74 = .ok (.iadd, 1) := by decide +kernel
theorem dX8_cuts_75 : decode cX8_cuts 75 = .ok (.istore_n 2, 1) := by decide +kernel
theorem dX8_cuts_76 : decode cX8_cuts 76 = .ok (.aload_n 0, 1) := by decide +kernel
theorem dX8_cuts_77 : decode cX8_cuts 77 = .ok (.getfield 44, 3) := by decide +kernel
theorem dX8_cuts_80 : decode cX8_cuts 80 = .ok (.iload_n 1, 1) := by decide +kernel
theorem dX8_cuts_81 : decode cX8_cuts 81 = .ok (.iaload, 1) := by decide +kernel
theorem dX8_cuts_82 : decode cX8_cuts 82 = .ok (.aload_n 0, 1) := by decide +kernel
theorem dX8_cuts_83 : decode cX8_cuts 83 = .ok (.getfield 41, 3) := by decide +kernel
theorem dX8_cuts_86 : decode cX8_cuts 86 = .ok (.iload_n 1, 1) := by decide +kernel
theorem dX8_cuts_87 : decode cX8_cuts 87 = .ok (.iaload, 1) := by decide +kernel
theorem dX8_cuts_88 : decode cX8_cuts 88 = .ok (.isub, 1) := by decide +kernel
theorem dX8_cuts_89 : decode cX8_cuts 89 = .ok (.iconst 1, 1) := by decide +kernel
theorem dX8_cuts_90 : decode cX8_cuts 90 = .ok (.iadd, 1) := by decide +kernel
theorem dX8_cuts_91 : decode cX8_cuts 91 = .ok (.istore_n 3, 1) := by decide +kernel
theorem dX8_cuts_92 : decode cX8_cuts 92 = .ok (.aload_n 0, 1) := by decide +kernel
theorem dX8_cuts_93 : decode cX8_cuts 93 = .ok (.iload_n 2, 1) := by decide +kernel
theorem dX8_cuts_94 : decode cX8_cuts 94 = .ok (.iload_n 3, 1) := by decide +kernel
theorem dX8_cuts_95 : decode cX8_cuts 95 = .ok (.invokevirtual 113, 3) := by decide +kernel
theorem dX8_cuts_98 : decode cX8_cuts 98 = .ok (.istore 4, 2) := by decide +kernel
theorem dX8_cuts_100 : decode cX8_cuts 100 = .ok (.aload_n 0, 1) := by decide +kernel
theorem dX8_cuts_101 : decode cX8_cuts 101 = .ok (.getfield 7, 3) := by decide +kernel
theorem dX8_cuts_104 : decode cX8_cuts 104 = .ok (.istore 5, 2) := by decide +kernel
theorem dX8_cuts_106 : decode cX8_cuts 106 = .ok (.aload_n 0, 1) := by decide +kernel
theorem dX8_cuts_107 : decode cX8_cuts 107 = .ok (.getfield 13, 3) := by decide +kernel
theorem dX8_cuts_110 : decode cX8_cuts 110 = .ok (.istore 6, 2) := by decide +kernel
theorem dX8_cuts_112 : decode cX8_cuts 112 = .ok (.iload 4, 2) := by decide +kernel
theorem dX8_cuts_114 : decode cX8_cuts 114 = .ok (.ifCond .lt 43, 3) := by decide +kernel
theorem dX8_cuts_117 : decode cX8_cuts 117 = .ok (.aload_n 0, 1) := by decide +kernel
theorem dX8_cuts_118 : decode cX8_cuts 118 = .ok (.getfield 32, 3) := by decide +kernel
theorem dX8_cuts_121 : decode cX8_cuts 121 = .ok (.iload_n 1, 1) := by decide +kernel
theorem dX8_cuts_122 : decode cX8_cuts 122 = .ok (.aload_n 0, 1) := by decide +kernel
theorem dX8_cuts_123 : decode cX8_cuts 123 = .ok (.getfield 56, 3) := by decide +kernel
theorem dX8_cuts_126 : decode cX8_cuts 126 = .ok (.iload 4, 2) := by decide +kernel
theorem dX8_cuts_128 : decode cX8_cuts 128 = .ok (.iaload, 1) := by decide +kernel
theorem dX8_cuts_129 : decode cX8_cuts 129 = .ok (.iastore, 1) := by decide +kernel
theorem dX8_cuts_130 : decode cX8_cuts 130 = .ok (.aload_n 0, 1) := by decide +kernel
theorem dX8_cuts_131 : decode cX8_cuts 131 = .ok (.getfield 50, 3) := by decide +kernel
theorem dX8_cuts_134 : decode cX8_cuts 134 = .ok (.iload 4, 2) := by decide +kernel
theorem dX8_cuts_136 : decode cX8_cuts 136 = .ok (.iaload, 1) := by decide +kernel
theorem dX8_cuts_137 : decode cX8_cuts 137 = .ok (.istore 5, 2) := by decide +kernel
theorem dX8_cuts_139 : decode cX8_cuts 139 = .ok (.aload_n 0, 1) := by decide +kernel
theorem dX8_cuts_140 : decode cX8_cuts 140 = .ok (.getfield 53, 3) := by decide +kernel
theorem dX8_cuts_143 : decode cX8_cuts 143 = .ok (.iload 4, 2) := by decide +kernel
theorem dX8_cuts_145 : decode cX8_cuts 145 = .ok (.iaload, 1) := by decide +kernel
theorem dX8_cuts_146 : decode cX8_cuts 146 = .ok (.istore 6, 2) := by decide +kernel
theorem dX8_cuts_148 : decode cX8_cuts 148 = .ok (.aload_n 0, 1) := by decide +kernel
theorem dX8_cuts_149 : decode cX8_cuts 149 = .ok (.iload 4, 2) := by decide +kernel
theorem dX8_cuts_151 : decode cX8_cuts 151 = .ok (.invokevirtual 117, 3) := by decide +kernel
theorem dX8_cuts_154 : decode cX8_cuts 154 = .ok (.goto 13, 3) := by decide +kernel
theorem dX8_cuts_157 : decode cX8_cuts 157 = .ok (.aload_n 0, 1) := by decide +kernel
theorem dX8_cuts_158 : decode cX8_cuts 158 = .ok (.dup, 1) := by decide +kernel
theorem dX8_cuts_159 : decode cX8_cuts 159 = .ok (.getfield 110, 3) := by decide +kernel
theorem dX8_cuts_162 : decode cX8_cuts 162 = .ok (.iconst 1, 1) := by decide +kernel
theorem dX8_cuts_163 : decode cX8_cuts 163 = .ok (.iadd, 1) := by decide +kernel
theorem dX8_cuts_164 : decode cX8_cuts 164 = .ok (.putfield 110, 3) := by decide +kernel
theorem dX8_cuts_167 : decode cX8_cuts 167 = .ok (.iload 5, 2) := by decide +kernel
theorem dX8_cuts_169 : decode cX8_cuts 169 = .ok (.iload_n 2, 1) := by decide +kernel
theorem dX8_cuts_170 : decode cX8_cuts 170 = .ok (.isub, 1) := by decide +kernel
theorem dX8_cuts_171 : decode cX8_cuts 171 = .ok (.iload 6, 2) := by decide +kernel
theorem dX8_cuts_173 : decode cX8_cuts 173 = .ok (.imul, 1) := by decide +kernel
theorem dX8_cuts_174 : decode cX8_cuts 174 = .ok (.istore 7, 2) := by decide +kernel
theorem dX8_cuts_176 : decode cX8_cuts 176 = .ok (.iload 5, 2) := by decide +kernel
theorem dX8_cuts_178 : decode cX8_cuts 178 = .ok (.iload 6, 2) := by decide +kernel
theorem dX8_cuts_180 : decode cX8_cuts 180 = .ok (.iload_n 3, 1) := by decide +kernel
theorem dX8_cuts_181 : decode cX8_cuts 181 = .ok (.isub, 1) := by decide +kernel
theorem dX8_cuts_182 : decode cX8_cuts 182 = .ok (.imul, 1) := by decide +kernel
theorem dX8_cuts_183 : decode cX8_cuts 183 = .ok (.istore 8, 2) := by decide +kernel
theorem dX8_cuts_185 : decode cX8_cuts 185 = .ok (.iload 7, 2) := by decide +kernel
theorem dX8_cuts_187 : decode cX8_cuts 187 = .ok (.ifCond .gt 8, 3) := by decide +kernel
theorem dX8_cuts_190 : decode cX8_cuts 190 = .ok (.iload 8, 2) := by decide +kernel
theorem dX8_cuts_192 : decode cX8_cuts 192 = .ok (.ifCond .le 73, 3) := by decide +kernel
theorem dX8_cuts_195 : decode cX8_cuts 195 = .ok (.aload_n 0, 1) := by decide +kernel
theorem dX8_cuts_196 : decode cX8_cuts 196 = .ok (.getfield 50, 3) := by decide +kernel
theorem dX8_cuts_199 : decode cX8_cuts 199 = .ok (.aload_n 0, 1) := by decide +kernel
theorem dX8_cuts_200 : decode cX8_cuts 200 = .ok (.getfield 107, 3) := by decide +kernel
theorem dX8_cuts_203 : decode cX8_cuts 203 = .ok (.iload 7, 2) := by decide +kernel
theorem dX8_cuts_205 : decode cX8_cuts 205 = .ok (.iload 8, 2) := by decide +kernel
theorem dX8_cuts_207 : decode cX8_cuts 207 = .ok (.if_icmp .lt 10, 3) := by decide +kernel
theorem dX8_cuts_210 : decode cX8_cuts 210 = .ok (.iload 5, 2) := by decide +kernel
theorem dX8_cuts_212 : decode cX8_cuts 212 = .ok (.iload_n 2, 1) := by decide +kernel
theorem dX8_cuts_213 : decode cX8_cuts 213 = .ok (.isub, 1) := by decide +kernel
theorem dX8_cuts_214 : decode cX8_cuts 214 = .ok (.goto 5, 3) := by decide +kernel
theorem dX8_cuts_217 : decode cX8_cuts 217 = .ok (.iload 5, 2) := by decide +kernel
theorem dX8_cuts_219 : decode cX8_cuts 219 = .ok (.iastore, 1) := by decide +kernel
theorem dX8_cuts_220 : decode cX8_cuts 220 = .ok (.aload_n 0, 1) := by decide +kernel
theorem dX8_cuts_221 : decode cX8_cuts 221 = .ok (.getfield 53, 3) := by decide +kernel
theorem dX8_cuts_224 : decode cX8_cuts 224 = .ok (.aload_n 0, 1) := by decide +kernel
theorem dX8_cuts_225 : decode cX8_cuts 225 = .ok (.getfield 107, 3) := by decide +kernel
theorem dX8_cuts_228 : decode cX8_cuts 228 = .ok (.iload 7, 2) := by decide +kernel
theorem dX8_cuts_230 : decode cX8_cuts 230 = .ok (.iload 8, 2) := by decide +kernel
theorem dX8_cuts_232 : decode cX8_cuts 232 = .ok (.if_icmp .lt 8, 3) := by decide +kernel
theorem dX8_cuts_235 : decode cX8_cuts 235 = .ok (.iload 6, 2) := by decide +kernel
theorem dX8_cuts_237 : decode cX8_cuts 237 = .ok (.goto 7, 3) := by decide +kernel
theorem dX8_cuts_240 : decode cX8_cuts 240 = .ok (.iload 6, 2) := by decide +kernel
theorem dX8_cuts_242 : decode cX8_cuts 242 = .ok (.iload_n 3, 1) := by decide +kernel
theorem dX8_cuts_243 : decode cX8_cuts 243 = .ok (.isub, 1) := by decide +kernel
theorem dX8_cuts_244 : decode cX8_cuts 244 = .ok (.iastore, 1) := by decide +kernel
theorem dX8_cuts_245 : decode cX8_cuts 245 = .ok (.aload_n 0, 1) := by decide +kernel
theorem dX8_cuts_246 : decode cX8_cuts 246 = .ok (.getfield 56, 3) := by decide +kernel
theorem dX8_cuts_249 : decode cX8_cuts 249 = .ok (.aload_n 0, 1) := by decide +kernel
theorem dX8_cuts_250 : decode cX8_cuts 250 = .ok (.getfield 107, 3) := by decide +kernel
theorem dX8_cuts_253 : decode cX8_cuts 253 = .ok (.iload_n 1, 1) := by decide +kernel
theorem dX8_cuts_254 : decode cX8_cuts 254 = .ok (.iastore, 1) := by decide +kernel
theorem dX8_cuts_255 : decode cX8_cuts 255 = .ok (.aload_n 0, 1) := by decide +kernel
theorem dX8_cuts_256 : decode cX8_cuts 256 = .ok (.dup, 1) := by decide +kernel
theorem dX8_cuts_257 : decode cX8_cuts 257 = .ok (.getfield 107, 3) := by decide +kernel
theorem dX8_cuts_260 : decode cX8_cuts 260 = .ok (.iconst 1, 1) := by decide +kernel
theorem dX8_cuts_261 : decode cX8_cuts 261 = .ok (.iadd, 1) := by decide +kernel
theorem dX8_cuts_262 : decode cX8_cuts 262 = .ok (.putfield 107, 3) := by decide +kernel
theorem dX8_cuts_265 : decode cX8_cuts 265 = .ok (.iinc 1 1, 3) := by decide +kernel
theorem dX8_cuts_268 : decode cX8_cuts 268 = .ok (.goto (-256), 3) := by decide +kernel
theorem dX8_cuts_271 : decode cX8_cuts 271 = .ok (.return_, 1) := by decide +kernel
theorem dX8_courses_0 : decode cX8_courses 0 = .ok (.bipush 8, 2) := by decide +kernel
theorem dX8_courses_2 : decode cX8_courses 2 = .ok (.iconst 2, 1) := by decide +kernel
theorem dX8_courses_3 : decode cX8_courses 3 = .ok (.aload_n 0, 1) := by decide +kernel
theorem dX8_courses_4 : decode cX8_courses 4 = .ok (.getfield 80, 3) := by decide +kernel
theorem dX8_courses_7 : decode cX8_courses 7 = .ok (.imul, 1) := by decide +kernel
theorem dX8_courses_8 : decode cX8_courses 8 = .ok (.isub, 1) := by decide +kernel
theorem dX8_courses_9 : decode cX8_courses 9 = .ok (.aload_n 0, 1) := by decide +kernel
theorem dX8_courses_10 : decode cX8_courses 10 = .ok (.getfield 13, 3) := by decide +kernel
theorem dX8_courses_13 : decode cX8_courses 13 = .ok (.iadd, 1) := by decide +kernel
theorem dX8_courses_14 : decode cX8_courses 14 = .ok (.iconst 1, 1) := by decide +kernel
theorem dX8_courses_15 : decode cX8_courses 15 = .ok (.isub, 1) := by decide +kernel
theorem dX8_courses_16 : decode cX8_courses 16 = .ok (.aload_n 0, 1) := by decide +kernel
theorem dX8_courses_17 : decode cX8_courses 17 = .ok (.getfield 13, 3) := by decide +kernel
theorem dX8_courses_20 : decode cX8_courses 20 = .ok (.idiv, 1) := by decide +kernel
theorem dX8_courses_21 : decode cX8_courses 21 = .ok (.ireturn, 1) := by decide +kernel
set_option maxRecDepth 20000 in
theorem ggX8_stripOfRow_X8_courses : GoodIn wsX8_stripOfRow wsX8_courses := goodIn_r _ [7, 1, 2, 8, 9, 10, 11, 12, 13, 14, 15, 16, 17, 18, 19, 20, 21, 22, 23, 24, 25, 26, 27, 28, 29, 30, 31, 32, 33, 34, 35, 36, 37, 38] (by decide +kernel) (by decide +kernel)
set_option maxRecDepth 20000 in
theorem gX8_stripOfRow_X8_courses : GoodIn wsX8_stripOfRow (wsV RX8 121 RX8 yX8_courses wsX8_courses) := goodIn_app (goodIn_of _ (by decide +kernel)) ggX8_stripOfRow_X8_courses
theorem dX8_stripOfRow_0 : decode cX8_stripOfRow 0 = .ok (.iload_n 1, 1) := by decide +kernel
theorem dX8_stripOfRow_1 : decode cX8_stripOfRow 1 = .ok (.aload_n 0, 1) := by decide +kernel
theorem dX8_stripOfRow_2 : decode cX8_stripOfRow 2 = .ok (.getfield 80, 3) := by decide +kernel
theorem dX8_stripOfRow_5 : decode cX8_stripOfRow 5 = .ok (.if_icmp .ge 5, 3) := by decide +kernel
theorem dX8_stripOfRow_8 : decode cX8_stripOfRow 8 = .ok (.iload_n 1, 1) := by decide +kernel
theorem dX8_stripOfRow_9 : decode cX8_stripOfRow 9 = .ok (.ireturn, 1) := by decide +kernel
theorem dX8_stripOfRow_10 : decode cX8_stripOfRow 10 = .ok (.iload_n 1, 1) := by decide +kernel
theorem dX8_stripOfRow_11 : decode cX8_stripOfRow 11 = .ok (.bipush 8, 2) := by decide +kernel
theorem dX8_stripOfRow_13 : decode cX8_stripOfRow 13 = .ok (.aload_n 0, 1) := by decide +kernel
theorem dX8_stripOfRow_14 : decode cX8_stripOfRow 14 = .ok (.getfield 80, 3) := by decide +kernel
theorem dX8_stripOfRow_17 : decode cX8_stripOfRow 17 = .ok (.isub, 1) := by decide +kernel
theorem dX8_stripOfRow_18 : decode cX8_stripOfRow 18 = .ok (.if_icmp .lt 25, 3) := by decide +kernel
theorem dX8_stripOfRow_21 : decode cX8_stripOfRow 21 = .ok (.aload_n 0, 1) := by decide +kernel
theorem dX8_stripOfRow_22 : decode cX8_stripOfRow 22 = .ok (.getfield 80, 3) := by decide +kernel
theorem dX8_stripOfRow_25 : decode cX8_stripOfRow 25 = .ok (.aload_n 0, 1) := by decide +kernel
theorem dX8_stripOfRow_26 : decode cX8_stripOfRow 26 = .ok (.invokevirtual 121, 3) := by decide +kernel
theorem dX8_stripOfRow_29 : decode cX8_stripOfRow 29 = .ok (.iadd, 1) := by decide +kernel
theorem dX8_stripOfRow_30 : decode cX8_stripOfRow 30 = .ok (.iload_n 1, 1) := by decide +kernel
theorem dX8_stripOfRow_31 : decode cX8_stripOfRow 31 = .ok (.iadd, 1) := by decide +kernel
theorem dX8_stripOfRow_32 : decode cX8_stripOfRow 32 = .ok (.bipush 8, 2) := by decide +kernel
theorem dX8_stripOfRow_34 : decode cX8_stripOfRow 34 = .ok (.aload_n 0, 1) := by decide +kernel
theorem dX8_stripOfRow_35 : decode cX8_stripOfRow 35 = .ok (.getfield 80, 3) := by decide +kernel
theorem dX8_stripOfRow_38 : decode cX8_stripOfRow 38 = .ok (.isub, 1) := by decide +kernel
theorem dX8_stripOfRow_39 : decode cX8_stripOfRow 39 = .ok (.isub, 1) := by decide +kernel
theorem dX8_stripOfRow_40 : decode cX8_stripOfRow 40 = .ok (.goto 19, 3) := by decide +kernel
theorem dX8_stripOfRow_43 : decode cX8_stripOfRow 43 = .ok (.aload_n 0, 1) := by decide +kernel
theorem dX8_stripOfRow_44 : decode cX8_stripOfRow 44 = .ok (.getfield 80, 3) := by decide +kernel
theorem dX8_stripOfRow_47 : decode cX8_stripOfRow 47 = .ok (.iload_n 1, 1) := by decide +kernel
theorem dX8_stripOfRow_48 : decode cX8_stripOfRow 48 = .ok (.aload_n 0, 1) := by decide +kernel
theorem dX8_stripOfRow_49 : decode cX8_stripOfRow 49 = .ok (.getfield 80, 3) := by decide +kernel
theorem dX8_stripOfRow_52 : decode cX8_stripOfRow 52 = .ok (.isub, 1) := by decide +kernel
theorem dX8_stripOfRow_53 : decode cX8_stripOfRow 53 = .ok (.aload_n 0, 1) := by decide +kernel
theorem dX8_stripOfRow_54 : decode cX8_stripOfRow 54 = .ok (.getfield 13, 3) := by decide +kernel
theorem dX8_stripOfRow_57 : decode cX8_stripOfRow 57 = .ok (.idiv, 1) := by decide +kernel
theorem dX8_stripOfRow_58 : decode cX8_stripOfRow 58 = .ok (.iadd, 1) := by decide +kernel
theorem dX8_stripOfRow_59 : decode cX8_stripOfRow 59 = .ok (.ireturn, 1) := by decide +kernel
set_option maxRecDepth 20000 in
theorem ggX8_stripCount_X8_courses : GoodIn wsX8_stripCount wsX8_courses := goodIn_r _ [6, 1, 7, 8, 9, 10, 11, 12, 13, 14, 15, 16, 17, 18, 19, 20, 21, 22, 23, 24, 25, 26, 27, 28, 29, 30, 31, 32, 33, 34, 35, 36, 37, 38] (by decide +kernel) (by decide +kernel)
set_option maxRecDepth 20000 in
theorem gX8_stripCount_X8_courses : GoodIn wsX8_stripCount (wsV RX8 121 RX8 yX8_courses wsX8_courses) := goodIn_app (goodIn_of _ (by decide +kernel)) ggX8_stripCount_X8_courses
theorem dX8_stripCount_0 : decode cX8_stripCount 0 = .ok (.iconst 2, 1) := by decide +kernel
theorem dX8_stripCount_1 : decode cX8_stripCount 1 = .ok (.aload_n 0, 1) := by decide +kernel
theorem dX8_stripCount_2 : decode cX8_stripCount 2 = .ok (.getfield 80, 3) := by decide +kernel
theorem dX8_stripCount_5 : decode cX8_stripCount 5 = .ok (.imul, 1) := by decide +kernel
theorem dX8_stripCount_6 : decode cX8_stripCount 6 = .ok (.aload_n 0, 1) := by decide +kernel
theorem dX8_stripCount_7 : decode cX8_stripCount 7 = .ok (.invokevirtual 121, 3) := by decide +kernel
theorem dX8_stripCount_10 : decode cX8_stripCount 10 = .ok (.iadd, 1) := by decide +kernel
theorem dX8_stripCount_11 : decode cX8_stripCount 11 = .ok (.ireturn, 1) := by decide +kernel
set_option maxRecDepth 20000 in
theorem ggX8_plan_X8_in : GoodIn wsX8_plan wsX8_in := goodIn_r _ [11] (by decide +kernel) (by decide +kernel)
set_option maxRecDepth 20000 in
theorem gX8_plan_X8_in : GoodIn wsX8_plan (wsV RX8 125 RX8 yX8_in wsX8_in) := goodIn_app (goodIn_of _ (by decide +kernel)) ggX8_plan_X8_in
set_option maxRecDepth 20000 in
theorem ggX8_plan_X8_holds : GoodIn wsX8_plan wsX8_holds := goodIn_r _ [15, 16, 65, 66, 67, 68, 69, 70, 71, 72, 73, 74, 75, 76, 77, 78, 79, 80, 81, 82, 83, 84, 85, 86, 87, 88, 89, 90, 91, 92, 93, 94, 95] (by decide +kernel) (by decide +kernel)
set_option maxRecDepth 20000 in
theorem gX8_plan_X8_holds : GoodIn wsX8_plan (wsV RX8 133 RX8 yX8_holds wsX8_holds) := goodIn_app (goodIn_of _ (by decide +kernel)) ggX8_plan_X8_holds
set_option maxRecDepth 20000 in
theorem ggX8_plan_X8_plans : GoodIn wsX8_plan wsX8_plans := goodIn_r _ [20, 6, 21, 22, 23, 24, 25, 26, 27, 28, 2, 3, 29, 30, 31, 10, 32, 33, 34, 35, 36, 37, 38, 39, 40, 41, 42, 4, 43, 44, 45, 46, 5, 47, 48, 49, 50, 51, 52, 53, 54, 55, 56, 57, 58, 59, 60, 61, 62, 63, 64, 65, 66, 67, 68, 69, 70, 71, 72, 73, 74, 75, 76, 77, 78, 79, 80, 81, 82, 83, 84, 85, 86, 87, 88, 89, 90, 91, 92, 93, 94, 95] (by decide +kernel) (by decide +kernel)
set_option maxRecDepth 20000 in
theorem gX8_plan_X8_plans : GoodIn wsX8_plan (wsV RX8 74 RX8 yX8_plans wsX8_plans) := goodIn_app (goodIn_of _ (by decide +kernel)) ggX8_plan_X8_plans
theorem dX8_plan_0 : decode cX8_plan 0 = .ok (.aload_n 0, 1) := by decide +kernel
theorem dX8_plan_1 : decode cX8_plan 1 = .ok (.iload_n 1, 1) := by decide +kernel
theorem dX8_plan_2 : decode cX8_plan 2 = .ok (.iconst 1, 1) := by decide +kernel
theorem dX8_plan_3 : decode cX8_plan 3 = .ok (.iconst 4, 1) := by decide +kernel
theorem dX8_plan_4 : decode cX8_plan 4 = .ok (.invokevirtual 125, 3) := by decide +kernel
theorem dX8_plan_7 : decode cX8_plan 7 = .ok (.ifCond .eq 38, 3) := by decide +kernel
theorem dX8_plan_10 : decode cX8_plan 10 = .ok (.aload_n 0, 1) := by decide +kernel
theorem dX8_plan_11 : decode cX8_plan 11 = .ok (.iload_n 2, 1) := by decide +kernel
theorem dX8_plan_12 : decode cX8_plan 12 = .ok (.iconst 1, 1) := by decide +kernel
theorem dX8_plan_13 : decode cX8_plan 13 = .ok (.iconst 4, 1) := by decide +kernel
theorem dX8_plan_14 : decode cX8_plan 14 = .ok (.invokevirtual 125, 3) := by decide +kernel
theorem dX8_plan_17 : decode cX8_plan 17 = .ok (.ifCond .eq 28, 3) := by decide +kernel
theorem dX8_plan_20 : decode cX8_plan 20 = .ok (.aload_n 0, 1) := by decide +kernel
theorem dX8_plan_21 : decode cX8_plan 21 = .ok (.iload_n 3, 1) := by decide +kernel
theorem dX8_plan_22 : decode cX8_plan 22 = .ok (.iconst 0, 1) := by decide +kernel
theorem dX8_plan_23 : decode cX8_plan 23 = .ok (.iconst 2, 1) := by decide +kernel
theorem dX8_plan_24 : decode cX8_plan 24 = .ok (.invokevirtual 125, 3) := by decide +kernel
theorem dX8_plan_27 : decode cX8_plan 27 = .ok (.ifCond .eq 18, 3) := by decide +kernel
theorem dX8_plan_30 : decode cX8_plan 30 = .ok (.aload_n 0, 1) := by decide +kernel
theorem dX8_plan_31 : decode cX8_plan 31 = .ok (.iload 4, 2) := by decide +kernel
theorem dX8_plan_33 : decode cX8_plan 33 = .ok (.iconst 0, 1) := by decide +kernel
theorem dX8_plan_34 : decode cX8_plan 34 = .ok (.iconst 1, 1) := by decide +kernel
theorem dX8_plan_35 : decode cX8_plan 35 = .ok (.invokevirtual 125, 3) := by decide +kernel
theorem dX8_plan_38 : decode cX8_plan 38 = .ok (.ifCond .eq 7, 3) := by decide +kernel
theorem dX8_plan_41 : decode cX8_plan 41 = .ok (.iconst 1, 1) := by decide +kernel
theorem dX8_plan_42 : decode cX8_plan 42 = .ok (.goto 4, 3) := by decide +kernel
theorem dX8_plan_45 : decode cX8_plan 45 = .ok (.iconst 0, 1) := by decide +kernel
theorem dX8_plan_46 : decode cX8_plan 46 = .ok (.istore 5, 2) := by decide +kernel
theorem dX8_plan_48 : decode cX8_plan 48 = .ok (.aload_n 0, 1) := by decide +kernel
theorem dX8_plan_49 : decode cX8_plan 49 = .ok (.iload 5, 2) := by decide +kernel
theorem dX8_plan_51 : decode cX8_plan 51 = .ok (.ifCond .ne 7, 3) := by decide +kernel
theorem dX8_plan_54 : decode cX8_plan 54 = .ok (.iconst 1, 1) := by decide +kernel
theorem dX8_plan_55 : decode cX8_plan 55 = .ok (.goto 15, 3) := by decide +kernel
theorem dX8_plan_58 : decode cX8_plan 58 = .ok (.aload_n 0, 1) := by decide +kernel
theorem dX8_plan_59 : decode cX8_plan 59 = .ok (.getfield 129, 3) := by decide +kernel
theorem dX8_plan_62 : decode cX8_plan 62 = .ok (.ifCond .eq 7, 3) := by decide +kernel
theorem dX8_plan_65 : decode cX8_plan 65 = .ok (.iconst 2, 1) := by decide +kernel
theorem dX8_plan_66 : decode cX8_plan 66 = .ok (.goto 4, 3) := by decide +kernel
theorem dX8_plan_69 : decode cX8_plan 69 = .ok (.iconst 0, 1) := by decide +kernel
theorem dX8_plan_70 : decode cX8_plan 70 = .ok (.invokevirtual 133, 3) := by decide +kernel
theorem dX8_plan_73 : decode cX8_plan 73 = .ok (.ifCond .eq 5, 3) := by decide +kernel
theorem dX8_plan_76 : decode cX8_plan 76 = .ok (.iconst (-1), 1) := by decide +kernel
theorem dX8_plan_77 : decode cX8_plan 77 = .ok (.ireturn, 1) := by decide +kernel
theorem dX8_plan_78 : decode cX8_plan 78 = .ok (.aload_n 0, 1) := by decide +kernel
theorem dX8_plan_79 : decode cX8_plan 79 = .ok (.iload_n 1, 1) := by decide +kernel
theorem dX8_plan_80 : decode cX8_plan 80 = .ok (.putfield 7, 3) := by decide +kernel
theorem dX8_plan_83 : decode cX8_plan 83 = .ok (.aload_n 0, 1) := by decide +kernel
theorem dX8_plan_84 : decode cX8_plan 84 = .ok (.iload_n 2, 1) := by decide +kernel
theorem dX8_plan_85 : decode cX8_plan 85 = .ok (.putfield 13, 3) := by decide +kernel
theorem dX8_plan_88 : decode cX8_plan 88 = .ok (.aload_n 0, 1) := by decide +kernel
theorem dX8_plan_89 : decode cX8_plan 89 = .ok (.iload_n 3, 1) := by decide +kernel
theorem dX8_plan_90 : decode cX8_plan 90 = .ok (.putfield 80, 3) := by decide +kernel
theorem dX8_plan_93 : decode cX8_plan 93 = .ok (.aload_n 0, 1) := by decide +kernel
theorem dX8_plan_94 : decode cX8_plan 94 = .ok (.iload 4, 2) := by decide +kernel
theorem dX8_plan_96 : decode cX8_plan 96 = .ok (.putfield 83, 3) := by decide +kernel
theorem dX8_plan_99 : decode cX8_plan 99 = .ok (.aload_n 0, 1) := by decide +kernel
theorem dX8_plan_100 : decode cX8_plan 100 = .ok (.invokevirtual 74, 3) := by decide +kernel
theorem dX8_plan_103 : decode cX8_plan 103 = .ok (.aload_n 0, 1) := by decide +kernel
theorem dX8_plan_104 : decode cX8_plan 104 = .ok (.getfield 94, 3) := by decide +kernel
theorem dX8_plan_107 : decode cX8_plan 107 = .ok (.ireturn, 1) := by decide +kernel
set_option maxRecDepth 20000 in
theorem ggX8_pillar_X8_in : GoodIn wsX8_pillar wsX8_in := goodIn_r _ [7] (by decide +kernel) (by decide +kernel)
set_option maxRecDepth 20000 in
theorem gX8_pillar_X8_in : GoodIn wsX8_pillar (wsV RX8 125 RX8 yX8_in wsX8_in) := goodIn_app (goodIn_of _ (by decide +kernel)) ggX8_pillar_X8_in
set_option maxRecDepth 20000 in
theorem ggX8_pillar_X8_holds : GoodIn wsX8_pillar wsX8_holds := goodIn_r _ [11, 12, 65, 66, 67, 68, 69, 70, 71, 72, 73, 74, 75, 76, 77, 78, 79, 80, 81, 82, 83, 84, 85, 86, 87, 88, 89, 90, 91, 92, 93, 94, 95] (by decide +kernel) (by decide +kernel)
set_option maxRecDepth 20000 in
theorem gX8_pillar_X8_holds : GoodIn wsX8_pillar (wsV RX8 133 RX8 yX8_holds wsX8_holds) := goodIn_app (goodIn_of _ (by decide +kernel)) ggX8_pillar_X8_holds
set_option maxRecDepth 20000 in
theorem ggX8_pillar_X8_plans : GoodIn wsX8_pillar wsX8_plans := goodIn_r _ [16, 17, 18, 19, 20, 21, 22, 23, 24, 25, 26, 27, 28, 29, 30, 6, 31, 2, 32, 33, 34, 35, 36, 37, 38, 39, 40, 41, 42, 43, 44, 45, 46, 47, 48, 49, 50, 51, 52, 53, 54, 55, 56, 57, 58, 59, 60, 61, 62, 63, 64, 65, 66, 67, 68, 69, 70, 71, 72, 73, 74, 75, 76, 77, 78, 79, 80, 81, 82, 83, 84, 85, 86, 87, 88, 89, 90, 91, 92, 93, 94, 95] (by decide +kernel) (by decide +kernel)
set_option maxRecDepth 20000 in
theorem gX8_pillar_X8_plans : GoodIn wsX8_pillar (wsV RX8 74 RX8 yX8_plans wsX8_plans) := goodIn_app (goodIn_of _ (by decide +kernel)) ggX8_pillar_X8_plans
theorem dX8_pillar_0 : decode cX8_pillar 0 = .ok (.aload_n 0, 1) := by decide +kernel
theorem dX8_pillar_1 : decode cX8_pillar 1 = .ok (.iload_n 1, 1) := by decide +kernel
theorem dX8_pillar_2 : decode cX8_pillar 2 = .ok (.iconst 0, 1) := by decide +kernel
theorem dX8_pillar_3 : decode cX8_pillar 3 = .ok (.bipush 11, 2) := by decide +kernel
theorem dX8_pillar_5 : decode cX8_pillar 5 = .ok (.invokevirtual 125, 3) := by decide +kernel
theorem dX8_pillar_8 : decode cX8_pillar 8 = .ok (.ifCond .eq 18, 3) := by decide +kernel
theorem dX8_pillar_11 : decode cX8_pillar 11 = .ok (.aload_n 0, 1) := by decide +kernel
theorem dX8_pillar_12 : decode cX8_pillar 12 = .ok (.iload_n 2, 1) := by decide +kernel
theorem dX8_pillar_13 : decode cX8_pillar 13 = .ok (.iconst 0, 1) := by decide +kernel
theorem dX8_pillar_14 : decode cX8_pillar 14 = .ok (.bipush 7, 2) := by decide +kernel
theorem dX8_pillar_16 : decode cX8_pillar 16 = .ok (.invokevirtual 125, 3) := by decide +kernel
theorem dX8_pillar_19 : decode cX8_pillar 19 = .ok (.ifCond .eq 7, 3) := by decide +kernel
theorem dX8_pillar_22 : decode cX8_pillar 22 = .ok (.iconst 1, 1) := by decide +kernel
theorem dX8_pillar_23 : decode cX8_pillar 23 = .ok (.goto 4, 3) := by decide +kernel
theorem dX8_pillar_26 : decode cX8_pillar 26 = .ok (.iconst 0, 1) := by decide +kernel
theorem dX8_pillar_27 : decode cX8_pillar 27 = .ok (.istore 4, 2) := by decide +kernel
theorem dX8_pillar_29 : decode cX8_pillar 29 = .ok (.aload_n 0, 1) := by decide +kernel
theorem dX8_pillar_30 : decode cX8_pillar 30 = .ok (.iload 4, 2) := by decide +kernel
theorem dX8_pillar_32 : decode cX8_pillar 32 = .ok (.ifCond .ne 7, 3) := by decide +kernel
theorem dX8_pillar_35 : decode cX8_pillar 35 = .ok (.iconst 1, 1) := by decide +kernel
theorem dX8_pillar_36 : decode cX8_pillar 36 = .ok (.goto 15, 3) := by decide +kernel
theorem dX8_pillar_39 : decode cX8_pillar 39 = .ok (.aload_n 0, 1) := by decide +kernel
theorem dX8_pillar_40 : decode cX8_pillar 40 = .ok (.getfield 129, 3) := by decide +kernel
theorem dX8_pillar_43 : decode cX8_pillar 43 = .ok (.ifCond .eq 7, 3) := by decide +kernel
theorem dX8_pillar_46 : decode cX8_pillar 46 = .ok (.iconst 2, 1) := by decide +kernel
theorem dX8_pillar_47 : decode cX8_pillar 47 = .ok (.goto 4, 3) := by decide +kernel
theorem dX8_pillar_50 : decode cX8_pillar 50 = .ok (.iconst 0, 1) := by decide +kernel
theorem dX8_pillar_51 : decode cX8_pillar 51 = .ok (.invokevirtual 133, 3) := by decide +kernel
theorem dX8_pillar_54 : decode cX8_pillar 54 = .ok (.ifCond .eq 5, 3) := by decide +kernel
theorem dX8_pillar_57 : decode cX8_pillar 57 = .ok (.iconst 0, 1) := by decide +kernel
theorem dX8_pillar_58 : decode cX8_pillar 58 = .ok (.ireturn, 1) := by decide +kernel
theorem dX8_pillar_59 : decode cX8_pillar 59 = .ok (.aload_n 0, 1) := by decide +kernel
theorem dX8_pillar_60 : decode cX8_pillar 60 = .ok (.getfield 16, 3) := by decide +kernel
theorem dX8_pillar_63 : decode cX8_pillar 63 = .ok (.bipush 12, 2) := by decide +kernel
theorem dX8_pillar_65 : decode cX8_pillar 65 = .ok (.iload_n 2, 1) := by decide +kernel
theorem dX8_pillar_66 : decode cX8_pillar 66 = .ok (.imul, 1) := by decide +kernel
theorem dX8_pillar_67 : decode cX8_pillar 67 = .ok (.iload_n 1, 1) := by decide +kernel
theorem dX8_pillar_68 : decode cX8_pillar 68 = .ok (.iadd, 1) := by decide +kernel
theorem dX8_pillar_69 : decode cX8_pillar 69 = .ok (.iaload, 1) := by decide +kernel
theorem dX8_pillar_70 : decode cX8_pillar 70 = .ok (.iconst 1, 1) := by decide +kernel
theorem dX8_pillar_71 : decode cX8_pillar 71 = .ok (.if_icmp .ne 7, 3) := by decide +kernel
theorem dX8_pillar_74 : decode cX8_pillar 74 = .ok (.iconst 1, 1) := by decide +kernel
theorem dX8_pillar_75 : decode cX8_pillar 75 = .ok (.goto 4, 3) := by decide +kernel
theorem dX8_pillar_78 : decode cX8_pillar 78 = .ok (.iconst 0, 1) := by decide +kernel
theorem dX8_pillar_79 : decode cX8_pillar 79 = .ok (.istore 5, 2) := by decide +kernel
theorem dX8_pillar_81 : decode cX8_pillar 81 = .ok (.aload_n 0, 1) := by decide +kernel
theorem dX8_pillar_82 : decode cX8_pillar 82 = .ok (.getfield 16, 3) := by decide +kernel
theorem dX8_pillar_85 : decode cX8_pillar 85 = .ok (.bipush 12, 2) := by decide +kernel
theorem dX8_pillar_87 : decode cX8_pillar 87 = .ok (.iload_n 2, 1) := by decide +kernel
theorem dX8_pillar_88 : decode cX8_pillar 88 = .ok (.imul, 1) := by decide +kernel
theorem dX8_pillar_89 : decode cX8_pillar 89 = .ok (.iload_n 1, 1) := by decide +kernel
theorem dX8_pillar_90 : decode cX8_pillar 90 = .ok (.iadd, 1) := by decide +kernel
theorem dX8_pillar_91 : decode cX8_pillar 91 = .ok (.iload_n 3, 1) := by decide +kernel
theorem dX8_pillar_92 : decode cX8_pillar 92 = .ok (.ifCond .eq 7, 3) := by decide +kernel
theorem dX8_pillar_95 : decode cX8_pillar 95 = .ok (.iconst 1, 1) := by decide +kernel
theorem dX8_pillar_96 : decode cX8_pillar 96 = .ok (.goto 4, 3) := by decide +kernel
theorem dX8_pillar_99 : decode cX8_pillar 99 = .ok (.iconst 0, 1) := by decide +kernel
theorem dX8_pillar_100 : decode cX8_pillar 100 = .ok (.iastore, 1) := by decide +kernel
theorem dX8_pillar_101 : decode cX8_pillar 101 = .ok (.aload_n 0, 1) := by decide +kernel
theorem dX8_pillar_102 : decode cX8_pillar 102 = .ok (.invokevirtual 74, 3) := by decide +kernel
theorem dX8_pillar_105 : decode cX8_pillar 105 = .ok (.iload 5, 2) := by decide +kernel
theorem dX8_pillar_107 : decode cX8_pillar 107 = .ok (.ireturn, 1) := by decide +kernel
set_option maxRecDepth 20000 in
theorem ggX8_door_X8_in : GoodIn wsX8_door wsX8_in := goodIn_r _ [9] (by decide +kernel) (by decide +kernel)
set_option maxRecDepth 20000 in
theorem gX8_door_X8_in : GoodIn wsX8_door (wsV RX8 125 RX8 yX8_in wsX8_in) := goodIn_app (goodIn_of _ (by decide +kernel)) ggX8_door_X8_in
set_option maxRecDepth 20000 in
theorem ggX8_door_X8_holds : GoodIn wsX8_door wsX8_holds := goodIn_r _ [13, 14, 66, 67, 68, 69, 70, 71, 72, 73, 74, 75, 76, 77, 78, 79, 80, 81, 82, 83, 84, 85, 86, 87, 88, 89, 90, 91, 92, 93, 94, 95, 96] (by decide +kernel) (by decide +kernel)
set_option maxRecDepth 20000 in
theorem gX8_door_X8_holds : GoodIn wsX8_door (wsV RX8 133 RX8 yX8_holds wsX8_holds) := goodIn_app (goodIn_of _ (by decide +kernel)) ggX8_door_X8_holds
set_option maxRecDepth 20000 in
theorem ggX8_door_X8_plans : GoodIn wsX8_door wsX8_plans := goodIn_r _ [18, 4, 19, 20, 21, 22, 23, 24, 25, 26, 27, 28, 29, 30, 31, 8, 32, 33, 3, 34, 35, 36, 37, 38, 39, 40, 41, 42, 43, 44, 45, 46, 47, 48, 49, 50, 51, 52, 53, 54, 55, 56, 57, 58, 59, 60, 61, 62, 63, 64, 65, 66, 67, 68, 69, 70, 71, 72, 73, 74, 75, 76, 77, 78, 79, 80, 81, 82, 83, 84, 85, 86, 87, 88, 89, 90, 91, 92, 93, 94, 95, 96] (by decide +kernel) (by decide +kernel)
set_option maxRecDepth 20000 in
theorem gX8_door_X8_plans : GoodIn wsX8_door (wsV RX8 74 RX8 yX8_plans wsX8_plans) := goodIn_app (goodIn_of _ (by decide +kernel)) ggX8_door_X8_plans
theorem dX8_door_0 : decode cX8_door 0 = .ok (.aload_n 0, 1) := by decide +kernel
theorem dX8_door_1 : decode cX8_door 1 = .ok (.aload_n 0, 1) := by decide +kernel
theorem dX8_door_2 : decode cX8_door 2 = .ok (.iload_n 1, 1) := by decide +kernel
theorem dX8_door_3 : decode cX8_door 3 = .ok (.iconst 0, 1) := by decide +kernel
theorem dX8_door_4 : decode cX8_door 4 = .ok (.bipush 10, 2) := by decide +kernel
theorem dX8_door_6 : decode cX8_door 6 = .ok (.invokevirtual 125, 3) := by decide +kernel
theorem dX8_door_9 : decode cX8_door 9 = .ok (.ifCond .eq 7, 3) := by decide +kernel
theorem dX8_door_12 : decode cX8_door 12 = .ok (.iconst 0, 1) := by decide +kernel
theorem dX8_door_13 : decode cX8_door 13 = .ok (.goto 4, 3) := by decide +kernel
theorem dX8_door_16 : decode cX8_door 16 = .ok (.iconst 1, 1) := by decide +kernel
theorem dX8_door_17 : decode cX8_door 17 = .ok (.invokevirtual 133, 3) := by decide +kernel
theorem dX8_door_20 : decode cX8_door 20 = .ok (.ifCond .eq 5, 3) := by decide +kernel
theorem dX8_door_23 : decode cX8_door 23 = .ok (.iconst (-1), 1) := by decide +kernel
theorem dX8_door_24 : decode cX8_door 24 = .ok (.ireturn, 1) := by decide +kernel
theorem dX8_door_25 : decode cX8_door 25 = .ok (.aload_n 0, 1) := by decide +kernel
theorem dX8_door_26 : decode cX8_door 26 = .ok (.iload_n 1, 1) := by decide +kernel
theorem dX8_door_27 : decode cX8_door 27 = .ok (.putfield 136, 3) := by decide +kernel
theorem dX8_door_30 : decode cX8_door 30 = .ok (.aload_n 0, 1) := by decide +kernel
theorem dX8_door_31 : decode cX8_door 31 = .ok (.getfield 65, 3) := by decide +kernel
theorem dX8_door_34 : decode cX8_door 34 = .ok (.iconst 0, 1) := by decide +kernel
theorem dX8_door_35 : decode cX8_door 35 = .ok (.iaload, 1) := by decide +kernel
theorem dX8_door_36 : decode cX8_door 36 = .ok (.ifCond .ge 50, 3) := by decide +kernel
theorem dX8_door_39 : decode cX8_door 39 = .ok (.iconst 0, 1) := by decide +kernel
theorem dX8_door_40 : decode cX8_door 40 = .ok (.istore_n 2, 1) := by decide +kernel
theorem dX8_door_41 : decode cX8_door 41 = .ok (.iload_n 2, 1) := by decide +kernel
theorem dX8_door_42 : decode cX8_door 42 = .ok (.bipush 12, 2) := by decide +kernel
theorem dX8_door_44 : decode cX8_door 44 = .ok (.if_icmp .ge 38, 3) := by decide +kernel
theorem dX8_door_47 : decode cX8_door 47 = .ok (.aload_n 0, 1) := by decide +kernel
theorem dX8_door_48 : decode cX8_door 48 = .ok (.getfield 20, 3) := by decide +kernel
theorem dX8_door_51 : decode cX8_door 51 = .ok (.iload_n 2, 1) := by decide +kernel
theorem dX8_door_52 : decode cX8_door 52 = .ok (.iload_n 2, 1) := by decide +kernel
theorem dX8_door_53 : decode cX8_door 53 = .ok (.aload_n 0, 1) := by decide +kernel
theorem dX8_door_54 : decode cX8_door 54 = .ok (.getfield 136, 3) := by decide +kernel
theorem dX8_door_57 : decode cX8_door 57 = .ok (.if_icmp .eq 13, 3) := by decide +kernel
theorem dX8_door_60 : decode cX8_door 60 = .ok (.iload_n 2, 1) := by decide +kernel
theorem dX8_door_61 : decode cX8_door 61 = .ok (.aload_n 0, 1) := by decide +kernel
theorem dX8_door_62 : decode cX8_door 62 = .ok (.getfield 136, 3) := by decide +kernel
theorem dX8_door_65 : decode cX8_door 65 = .ok (.iconst 1, 1) := by decide +kernel
theorem dX8_door_66 : decode cX8_door 66 = .ok (.iadd, 1) := by decide +kernel
theorem dX8_door_67 : decode cX8_door 67 = .ok (.if_icmp .ne 7, 3) := by decide +kernel
theorem dX8_door_70 : decode cX8_door 70 = .ok (.iconst 1, 1) := by decide +kernel
theorem dX8_door_71 : decode cX8_door 71 = .ok (.goto 4, 3) := by decide +kernel
theorem dX8_door_74 : decode cX8_door 74 = .ok (.iconst 0, 1) := by decide +kernel
theorem dX8_door_75 : decode cX8_door 75 = .ok (.iastore, 1) := by decide +kernel
theorem dX8_door_76 : decode cX8_door 76 = .ok (.iinc 2 1, 3) := by decide +kernel
theorem dX8_door_79 : decode cX8_door 79 = .ok (.goto (-38), 3) := by decide +kernel
theorem dX8_door_82 : decode cX8_door 82 = .ok (.aload_n 0, 1) := by decide +kernel
theorem dX8_door_83 : decode cX8_door 83 = .ok (.invokevirtual 74, 3) := by decide +kernel
theorem dX8_door_86 : decode cX8_door 86 = .ok (.aload_n 0, 1) := by decide +kernel
theorem dX8_door_87 : decode cX8_door 87 = .ok (.getfield 94, 3) := by decide +kernel
theorem dX8_door_90 : decode cX8_door 90 = .ok (.ireturn, 1) := by decide +kernel
set_option maxRecDepth 20000 in
theorem ggX8_ofPiece_X8_in : GoodIn wsX8_ofPiece wsX8_in := goodIn_r _ [10] (by decide +kernel) (by decide +kernel)
set_option maxRecDepth 20000 in
theorem gX8_ofPiece_X8_in : GoodIn wsX8_ofPiece (wsV RX8 125 RX8 yX8_in wsX8_in) := goodIn_app (goodIn_of _ (by decide +kernel)) ggX8_ofPiece_X8_in
set_option maxRecDepth 20000 in
theorem ggX8_ofPiece_X8_holds : GoodIn wsX8_ofPiece wsX8_holds := goodIn_r _ [14, 15, 26, 27, 28, 29, 30, 31, 32, 33, 34, 35, 36, 37, 38, 39, 40, 41, 42, 43, 44, 45, 46, 47, 48, 49, 50, 51, 52, 53, 54, 55, 56] (by decide +kernel) (by decide +kernel)
set_option maxRecDepth 20000 in
theorem gX8_ofPiece_X8_holds : GoodIn wsX8_ofPiece (wsV RX8 133 RX8 yX8_holds wsX8_holds) := goodIn_app (goodIn_of _ (by decide +kernel)) ggX8_ofPiece_X8_holds
set_option maxRecDepth 20000 in
theorem ggX8_ofPiece_X8_stripOfRow : GoodIn wsX8_ofPiece wsX8_stripOfRow := goodIn_r _ [19, 20, 21, 22, 23, 24, 9, 25, 26, 27, 28, 29, 30, 31, 32, 33, 34, 35, 36, 37, 38, 39, 40, 41, 42, 43, 44, 45, 46, 47, 48, 49, 50, 51, 52, 53, 54, 55, 56] (by decide +kernel) (by decide +kernel)
set_option maxRecDepth 20000 in
theorem gX8_ofPiece_X8_stripOfRow : GoodIn wsX8_ofPiece (wsV RX8 139 RX8 yX8_stripOfRow wsX8_stripOfRow) := goodIn_app (goodIn_of _ (by decide +kernel)) ggX8_ofPiece_X8_stripOfRow
theorem dX8_ofPiece_0 : decode cX8_ofPiece 0 = .ok (.aload_n 0, 1) := by decide +kernel
theorem dX8_ofPiece_1 : decode cX8_ofPiece 1 = .ok (.aload_n 0, 1) := by decide +kernel
theorem dX8_ofPiece_2 : decode cX8_ofPiece 2 = .ok (.iload_n 1, 1) := by decide +kernel
theorem dX8_ofPiece_3 : decode cX8_ofPiece 3 = .ok (.iconst 0, 1) := by decide +kernel
theorem dX8_ofPiece_4 : decode cX8_ofPiece 4 = .ok (.aload_n 0, 1) := by decide +kernel
theorem dX8_ofPiece_5 : decode cX8_ofPiece 5 = .ok (.getfield 94, 3) := by decide +kernel
theorem dX8_ofPiece_8 : decode cX8_ofPiece 8 = .ok (.iconst 1, 1) := by decide +kernel
theorem dX8_ofPiece_9 : decode cX8_ofPiece 9 = .ok (.isub, 1) := by decide +kernel
theorem dX8_ofPiece_10 : decode cX8_ofPiece 10 = .ok (.invokevirtual 125, 3) := by decide +kernel
theorem dX8_ofPiece_13 : decode cX8_ofPiece 13 = .ok (.ifCond .ne 7, 3) := by decide +kernel
theorem dX8_ofPiece_16 : decode cX8_ofPiece 16 = .ok (.iconst 1, 1) := by decide +kernel
theorem dX8_ofPiece_17 : decode cX8_ofPiece 17 = .ok (.goto 18, 3) := by decide +kernel
theorem dX8_ofPiece_20 : decode cX8_ofPiece 20 = .ok (.aload_n 0, 1) := by decide +kernel
theorem dX8_ofPiece_21 : decode cX8_ofPiece 21 = .ok (.iload_n 2, 1) := by decide +kernel
theorem dX8_ofPiece_22 : decode cX8_ofPiece 22 = .ok (.iconst 0, 1) := by decide +kernel
theorem dX8_ofPiece_23 : decode cX8_ofPiece 23 = .ok (.iconst 5, 1) := by decide +kernel
theorem dX8_ofPiece_24 : decode cX8_ofPiece 24 = .ok (.invokevirtual 125, 3) := by decide +kernel
theorem dX8_ofPiece_27 : decode cX8_ofPiece 27 = .ok (.ifCond .eq 7, 3) := by decide +kernel
theorem dX8_ofPiece_30 : decode cX8_ofPiece 30 = .ok (.iconst 0, 1) := by decide +kernel
theorem dX8_ofPiece_31 : decode cX8_ofPiece 31 = .ok (.goto 4, 3) := by decide +kernel
theorem dX8_ofPiece_34 : decode cX8_ofPiece 34 = .ok (.iconst 2, 1) := by decide +kernel
theorem dX8_ofPiece_35 : decode cX8_ofPiece 35 = .ok (.invokevirtual 133, 3) := by decide +kernel
theorem dX8_ofPiece_38 : decode cX8_ofPiece 38 = .ok (.ifCond .eq 5, 3) := by decide +kernel
theorem dX8_ofPiece_41 : decode cX8_ofPiece 41 = .ok (.iconst (-1), 1) := by decide +kernel
theorem dX8_ofPiece_42 : decode cX8_ofPiece 42 = .ok (.ireturn, 1) := by decide +kernel
theorem dX8_ofPiece_43 : decode cX8_ofPiece 43 = .ok (.iload_n 2, 1) := by decide +kernel
theorem dX8_ofPiece_44 : decode cX8_ofPiece 44 = .ok (.tableswitch 84 0 4 #[36, 43, 53, 63, 70], 36) := by decide +kernel
theorem dX8_ofPiece_80 : decode cX8_ofPiece 80 = .ok (.aload_n 0, 1) := by decide +kernel
theorem dX8_ofPiece_81 : decode cX8_ofPiece 81 = .ok (.getfield 23, 3) := by decide +kernel
theorem dX8_ofPiece_84 : decode cX8_ofPiece 84 = .ok (.iload_n 1, 1) := by decide +kernel
theorem dX8_ofPiece_85 : decode cX8_ofPiece 85 = .ok (.iaload, 1) := by decide +kernel
theorem dX8_ofPiece_86 : decode cX8_ofPiece 86 = .ok (.ireturn, 1) := by decide +kernel
theorem dX8_ofPiece_87 : decode cX8_ofPiece 87 = .ok (.aload_n 0, 1) := by decide +kernel
theorem dX8_ofPiece_88 : decode cX8_ofPiece 88 = .ok (.getfield 26, 3) := by decide +kernel
theorem dX8_ofPiece_91 : decode cX8_ofPiece 91 = .ok (.iload_n 1, 1) := by decide +kernel
theorem dX8_ofPiece_92 : decode cX8_ofPiece 92 = .ok (.iaload, 1) := by decide +kernel
theorem dX8_ofPiece_93 : decode cX8_ofPiece 93 = .ok (.bipush 12, 2) := by decide +kernel
theorem dX8_ofPiece_95 : decode cX8_ofPiece 95 = .ok (.irem, 1) := by decide +kernel
theorem dX8_ofPiece_96 : decode cX8_ofPiece 96 = .ok (.ireturn, 1) := by decide +kernel
theorem dX8_ofPiece_97 : decode cX8_ofPiece 97 = .ok (.aload_n 0, 1) := by decide +kernel
theorem dX8_ofPiece_98 : decode cX8_ofPiece 98 = .ok (.getfield 26, 3) := by decide +kernel
theorem dX8_ofPiece_101 : decode cX8_ofPiece 101 = .ok (.iload_n 1, 1) := by decide +kernel
theorem dX8_ofPiece_102 : decode cX8_ofPiece 102 = .ok (.iaload, 1) := by decide +kernel
theorem dX8_ofPiece_103 : decode cX8_ofPiece 103 = .ok (.bipush 12, 2) := by decide +kernel
theorem dX8_ofPiece_105 : decode cX8_ofPiece 105 = .ok (.idiv, 1) := by decide +kernel
theorem dX8_ofPiece_106 : decode cX8_ofPiece 106 = .ok (.ireturn, 1) := by decide +kernel
theorem dX8_ofPiece_107 : decode cX8_ofPiece 107 = .ok (.aload_n 0, 1) := by decide +kernel
theorem dX8_ofPiece_108 : decode cX8_ofPiece 108 = .ok (.getfield 29, 3) := by decide +kernel
theorem dX8_ofPiece_111 : decode cX8_ofPiece 111 = .ok (.iload_n 1, 1) := by decide +kernel
theorem dX8_ofPiece_112 : decode cX8_ofPiece 112 = .ok (.iaload, 1) := by decide +kernel
theorem dX8_ofPiece_113 : decode cX8_ofPiece 113 = .ok (.ireturn, 1) := by decide +kernel
theorem dX8_ofPiece_114 : decode cX8_ofPiece 114 = .ok (.aload_n 0, 1) := by decide +kernel
theorem dX8_ofPiece_115 : decode cX8_ofPiece 115 = .ok (.aload_n 0, 1) := by decide +kernel
theorem dX8_ofPiece_116 : decode cX8_ofPiece 116 = .ok (.getfield 26, 3) := by decide +kernel
theorem dX8_ofPiece_119 : decode cX8_ofPiece 119 = .ok (.iload_n 1, 1) := by decide +kernel
theorem dX8_ofPiece_120 : decode cX8_ofPiece 120 = .ok (.iaload, 1) := by decide +kernel
theorem dX8_ofPiece_121 : decode cX8_ofPiece 121 = .ok (.bipush 12, 2) := by decide +kernel
theorem dX8_ofPiece_123 : decode cX8_ofPiece 123 = .ok (.idiv, 1) := by decide +kernel
theorem dX8_ofPiece_124 : decode cX8_ofPiece 124 = .ok (.invokevirtual 139, 3) := by decide +kernel
theorem dX8_ofPiece_127 : decode cX8_ofPiece 127 = .ok (.ireturn, 1) := by decide +kernel
theorem dX8_ofPiece_128 : decode cX8_ofPiece 128 = .ok (.aload_n 0, 1) := by decide +kernel
theorem dX8_ofPiece_129 : decode cX8_ofPiece 129 = .ok (.getfield 32, 3) := by decide +kernel
theorem dX8_ofPiece_132 : decode cX8_ofPiece 132 = .ok (.iload_n 1, 1) := by decide +kernel
theorem dX8_ofPiece_133 : decode cX8_ofPiece 133 = .ok (.iaload, 1) := by decide +kernel
theorem dX8_ofPiece_134 : decode cX8_ofPiece 134 = .ok (.ireturn, 1) := by decide +kernel
set_option maxRecDepth 20000 in
theorem ggX8_pieceAt_X8_in : GoodIn wsX8_pieceAt wsX8_in := goodIn_r _ [6] (by decide +kernel) (by decide +kernel)
set_option maxRecDepth 20000 in
theorem gX8_pieceAt_X8_in : GoodIn wsX8_pieceAt (wsV RX8 125 RX8 yX8_in wsX8_in) := goodIn_app (goodIn_of _ (by decide +kernel)) ggX8_pieceAt_X8_in
set_option maxRecDepth 20000 in
theorem ggX8_pieceAt_X8_holds : GoodIn wsX8_pieceAt wsX8_holds := goodIn_r _ [10, 11, 12, 13, 14, 15, 16, 17, 18, 19, 20, 21, 22, 23, 24, 25, 26, 27, 28, 29, 30, 31, 32, 33, 34, 35, 36, 37, 38, 39, 40, 41, 42] (by decide +kernel) (by decide +kernel)
set_option maxRecDepth 20000 in
theorem gX8_pieceAt_X8_holds : GoodIn wsX8_pieceAt (wsV RX8 133 RX8 yX8_holds wsX8_holds) := goodIn_app (goodIn_of _ (by decide +kernel)) ggX8_pieceAt_X8_holds
theorem dX8_pieceAt_0 : decode cX8_pieceAt 0 = .ok (.aload_n 0, 1) := by decide +kernel
theorem dX8_pieceAt_1 : decode cX8_pieceAt 1 = .ok (.aload_n 0, 1) := by decide +kernel
theorem dX8_pieceAt_2 : decode cX8_pieceAt 2 = .ok (.iload_n 1, 1) := by decide +kernel
theorem dX8_pieceAt_3 : decode cX8_pieceAt 3 = .ok (.iconst 0, 1) := by decide +kernel
theorem dX8_pieceAt_4 : decode cX8_pieceAt 4 = .ok (.bipush 11, 2) := by decide +kernel
theorem dX8_pieceAt_6 : decode cX8_pieceAt 6 = .ok (.invokevirtual 125, 3) := by decide +kernel
theorem dX8_pieceAt_9 : decode cX8_pieceAt 9 = .ok (.ifCond .eq 18, 3) := by decide +kernel
theorem dX8_pieceAt_12 : decode cX8_pieceAt 12 = .ok (.aload_n 0, 1) := by decide +kernel
theorem dX8_pieceAt_13 : decode cX8_pieceAt 13 = .ok (.iload_n 2, 1) := by decide +kernel
theorem dX8_pieceAt_14 : decode cX8_pieceAt 14 = .ok (.iconst 0, 1) := by decide +kernel
theorem dX8_pieceAt_15 : decode cX8_pieceAt 15 = .ok (.bipush 7, 2) := by decide +kernel
theorem dX8_pieceAt_17 : decode cX8_pieceAt 17 = .ok (.invokevirtual 125, 3) := by decide +kernel
theorem dX8_pieceAt_20 : decode cX8_pieceAt 20 = .ok (.ifCond .eq 7, 3) := by decide +kernel
theorem dX8_pieceAt_23 : decode cX8_pieceAt 23 = .ok (.iconst 0, 1) := by decide +kernel
theorem dX8_pieceAt_24 : decode cX8_pieceAt 24 = .ok (.goto 4, 3) := by decide +kernel
theorem dX8_pieceAt_27 : decode cX8_pieceAt 27 = .ok (.iconst 1, 1) := by decide +kernel
theorem dX8_pieceAt_28 : decode cX8_pieceAt 28 = .ok (.invokevirtual 133, 3) := by decide +kernel
theorem dX8_pieceAt_31 : decode cX8_pieceAt 31 = .ok (.ifCond .eq 7, 3) := by decide +kernel
theorem dX8_pieceAt_34 : decode cX8_pieceAt 34 = .ok (.iconst (-1), 1) := by decide +kernel
theorem dX8_pieceAt_35 : decode cX8_pieceAt 35 = .ok (.goto 14, 3) := by decide +kernel
theorem dX8_pieceAt_38 : decode cX8_pieceAt 38 = .ok (.aload_n 0, 1) := by decide +kernel
theorem dX8_pieceAt_39 : decode cX8_pieceAt 39 = .ok (.getfield 47, 3) := by decide +kernel
theorem dX8_pieceAt_42 : decode cX8_pieceAt 42 = .ok (.bipush 12, 2) := by decide +kernel
theorem dX8_pieceAt_44 : decode cX8_pieceAt 44 = .ok (.iload_n 2, 1) := by decide +kernel
theorem dX8_pieceAt_45 : decode cX8_pieceAt 45 = .ok (.imul, 1) := by decide +kernel
theorem dX8_pieceAt_46 : decode cX8_pieceAt 46 = .ok (.iload_n 1, 1) := by decide +kernel
theorem dX8_pieceAt_47 : decode cX8_pieceAt 47 = .ok (.iadd, 1) := by decide +kernel
theorem dX8_pieceAt_48 : decode cX8_pieceAt 48 = .ok (.iaload, 1) := by decide +kernel
theorem dX8_pieceAt_49 : decode cX8_pieceAt 49 = .ok (.ireturn, 1) := by decide +kernel
set_option maxRecDepth 20000 in
theorem ggX8_piecesAnew_X8_holds : GoodIn wsX8_piecesAnew wsX8_holds := goodIn_r _ [6, 7, 8, 9, 10, 11, 12, 13, 14, 15, 16, 17, 18, 19, 20, 21, 22, 23, 24, 25, 26, 27, 28, 29, 30, 31, 32, 33, 34, 35, 36, 37, 38] (by decide +kernel) (by decide +kernel)
set_option maxRecDepth 20000 in
theorem gX8_piecesAnew_X8_holds : GoodIn wsX8_piecesAnew (wsV RX8 133 RX8 yX8_holds wsX8_holds) := goodIn_app (goodIn_of _ (by decide +kernel)) ggX8_piecesAnew_X8_holds
theorem dX8_piecesAnew_0 : decode cX8_piecesAnew 0 = .ok (.aload_n 0, 1) := by decide +kernel
theorem dX8_piecesAnew_1 : decode cX8_piecesAnew 1 = .ok (.iconst 0, 1) := by decide +kernel
theorem dX8_piecesAnew_2 : decode cX8_piecesAnew 2 = .ok (.invokevirtual 133, 3) := by decide +kernel
theorem dX8_piecesAnew_5 : decode cX8_piecesAnew 5 = .ok (.pop, 1) := by decide +kernel
theorem dX8_piecesAnew_6 : decode cX8_piecesAnew 6 = .ok (.aload_n 0, 1) := by decide +kernel
theorem dX8_piecesAnew_7 : decode cX8_piecesAnew 7 = .ok (.getfield 94, 3) := by decide +kernel
theorem dX8_piecesAnew_10 : decode cX8_piecesAnew 10 = .ok (.ireturn, 1) := by decide +kernel
set_option maxRecDepth 20000 in
theorem ggX8_tiles_X8_holds : GoodIn wsX8_tiles wsX8_holds := goodIn_r _ [6, 7, 8, 9, 10, 11, 12, 13, 14, 15, 16, 17, 18, 19, 20, 21, 22, 23, 24, 25, 26, 27, 28, 29, 30, 31, 32, 33, 34, 35, 36, 37, 38] (by decide +kernel) (by decide +kernel)
set_option maxRecDepth 20000 in
theorem gX8_tiles_X8_holds : GoodIn wsX8_tiles (wsV RX8 133 RX8 yX8_holds wsX8_holds) := goodIn_app (goodIn_of _ (by decide +kernel)) ggX8_tiles_X8_holds
theorem dX8_tiles_0 : decode cX8_tiles 0 = .ok (.aload_n 0, 1) := by decide +kernel
theorem dX8_tiles_1 : decode cX8_tiles 1 = .ok (.iconst 0, 1) := by decide +kernel
theorem dX8_tiles_2 : decode cX8_tiles 2 = .ok (.invokevirtual 133, 3) := by decide +kernel
theorem dX8_tiles_5 : decode cX8_tiles 5 = .ok (.pop, 1) := by decide +kernel
theorem dX8_tiles_6 : decode cX8_tiles 6 = .ok (.aload_n 0, 1) := by decide +kernel
theorem dX8_tiles_7 : decode cX8_tiles 7 = .ok (.getfield 110, 3) := by decide +kernel
theorem dX8_tiles_10 : decode cX8_tiles 10 = .ok (.ireturn, 1) := by decide +kernel
set_option maxRecDepth 20000 in
theorem ggX8_rest_X8_holds : GoodIn wsX8_rest wsX8_holds := goodIn_r _ [8, 9, 10, 11, 12, 13, 14, 15, 16, 17, 18, 19, 20, 21, 22, 23, 24, 25, 26, 27, 28, 29, 30, 31, 32, 33, 34, 35, 36, 37, 38, 39, 40] (by decide +kernel) (by decide +kernel)
set_option maxRecDepth 20000 in
theorem gX8_rest_X8_holds : GoodIn wsX8_rest (wsV RX8 133 RX8 yX8_holds wsX8_holds) := goodIn_app (goodIn_of _ (by decide +kernel)) ggX8_rest_X8_holds
theorem dX8_rest_0 : decode cX8_rest 0 = .ok (.aload_n 0, 1) := by decide +kernel
theorem dX8_rest_1 : decode cX8_rest 1 = .ok (.iload_n 1, 1) := by decide +kernel
theorem dX8_rest_2 : decode cX8_rest 2 = .ok (.ifCond .ge 7, 3) := by decide +kernel
theorem dX8_rest_5 : decode cX8_rest 5 = .ok (.iconst 1, 1) := by decide +kernel
theorem dX8_rest_6 : decode cX8_rest 6 = .ok (.goto 4, 3) := by decide +kernel
theorem dX8_rest_9 : decode cX8_rest 9 = .ok (.iconst 0, 1) := by decide +kernel
theorem dX8_rest_10 : decode cX8_rest 10 = .ok (.invokevirtual 133, 3) := by decide +kernel
theorem dX8_rest_13 : decode cX8_rest 13 = .ok (.ifCond .eq 5, 3) := by decide +kernel
theorem dX8_rest_16 : decode cX8_rest 16 = .ok (.iconst (-1), 1) := by decide +kernel
theorem dX8_rest_17 : decode cX8_rest 17 = .ok (.ireturn, 1) := by decide +kernel
theorem dX8_rest_18 : decode cX8_rest 18 = .ok (.iload_n 1, 1) := by decide +kernel
theorem dX8_rest_19 : decode cX8_rest 19 = .ok (.aload_n 0, 1) := by decide +kernel
theorem dX8_rest_20 : decode cX8_rest 20 = .ok (.getfield 107, 3) := by decide +kernel
theorem dX8_rest_23 : decode cX8_rest 23 = .ok (.if_icmp .ge 22, 3) := by decide +kernel
theorem dX8_rest_26 : decode cX8_rest 26 = .ok (.bipush 10, 2) := by decide +kernel
theorem dX8_rest_28 : decode cX8_rest 28 = .ok (.aload_n 0, 1) := by decide +kernel
theorem dX8_rest_29 : decode cX8_rest 29 = .ok (.getfield 50, 3) := by decide +kernel
theorem dX8_rest_32 : decode cX8_rest 32 = .ok (.iload_n 1, 1) := by decide +kernel
theorem dX8_rest_33 : decode cX8_rest 33 = .ok (.iaload, 1) := by decide +kernel
theorem dX8_rest_34 : decode cX8_rest 34 = .ok (.imul, 1) := by decide +kernel
theorem dX8_rest_35 : decode cX8_rest 35 = .ok (.aload_n 0, 1) := by decide +kernel
theorem dX8_rest_36 : decode cX8_rest 36 = .ok (.getfield 53, 3) := by decide +kernel
theorem dX8_rest_39 : decode cX8_rest 39 = .ok (.iload_n 1, 1) := by decide +kernel
theorem dX8_rest_40 : decode cX8_rest 40 = .ok (.iaload, 1) := by decide +kernel
theorem dX8_rest_41 : decode cX8_rest 41 = .ok (.iadd, 1) := by decide +kernel
theorem dX8_rest_42 : decode cX8_rest 42 = .ok (.goto 4, 3) := by decide +kernel
theorem dX8_rest_45 : decode cX8_rest 45 = .ok (.iconst (-1), 1) := by decide +kernel
theorem dX8_rest_46 : decode cX8_rest 46 = .ok (.ireturn, 1) := by decide +kernel
set_option maxRecDepth 20000 in
theorem ggX8_crate_X8_in : GoodIn wsX8_crate wsX8_in := goodIn_r _ [8] (by decide +kernel) (by decide +kernel)
set_option maxRecDepth 20000 in
theorem gX8_crate_X8_in : GoodIn wsX8_crate (wsV RX8 125 RX8 yX8_in wsX8_in) := goodIn_app (goodIn_of _ (by decide +kernel)) ggX8_crate_X8_in
set_option maxRecDepth 20000 in
theorem ggX8_crate_X8_holds : GoodIn wsX8_crate wsX8_holds := goodIn_r _ [12, 13, 14, 15, 16, 17, 18, 19, 20, 21, 22, 23, 24, 25, 26, 27, 28, 29, 30, 31, 32, 33, 34, 35, 36, 37, 38, 39, 40, 41, 42, 43, 44] (by decide +kernel) (by decide +kernel)
set_option maxRecDepth 20000 in
theorem gX8_crate_X8_holds : GoodIn wsX8_crate (wsV RX8 133 RX8 yX8_holds wsX8_holds) := goodIn_app (goodIn_of _ (by decide +kernel)) ggX8_crate_X8_holds
theorem dX8_crate_0 : decode cX8_crate 0 = .ok (.aload_n 0, 1) := by decide +kernel
theorem dX8_crate_1 : decode cX8_crate 1 = .ok (.aload_n 0, 1) := by decide +kernel
theorem dX8_crate_2 : decode cX8_crate 2 = .ok (.iload_n 1, 1) := by decide +kernel
theorem dX8_crate_3 : decode cX8_crate 3 = .ok (.iconst 0, 1) := by decide +kernel
theorem dX8_crate_4 : decode cX8_crate 4 = .ok (.bipush 9, 2) := by decide +kernel
theorem dX8_crate_6 : decode cX8_crate 6 = .ok (.invokevirtual 125, 3) := by decide +kernel
theorem dX8_crate_9 : decode cX8_crate 9 = .ok (.ifCond .eq 14, 3) := by decide +kernel
theorem dX8_crate_12 : decode cX8_crate 12 = .ok (.aload_n 0, 1) := by decide +kernel
theorem dX8_crate_13 : decode cX8_crate 13 = .ok (.iload_n 2, 1) := by decide +kernel
theorem dX8_crate_14 : decode cX8_crate 14 = .ok (.iconst 1, 1) := by decide +kernel
theorem dX8_crate_15 : decode cX8_crate 15 = .ok (.bipush 100, 2) := by decide +kernel
theorem dX8_crate_17 : decode cX8_crate 17 = .ok (.invokevirtual 125, 3) := by decide +kernel
theorem dX8_crate_20 : decode cX8_crate 20 = .ok (.ifCond .ne 7, 3) := by decide +kernel
theorem dX8_crate_23 : decode cX8_crate 23 = .ok (.iconst 1, 1) := by decide +kernel
theorem dX8_crate_24 : decode cX8_crate 24 = .ok (.goto 17, 3) := by decide +kernel
theorem dX8_crate_27 : decode cX8_crate 27 = .ok (.aload_n 0, 1) := by decide +kernel
theorem dX8_crate_28 : decode cX8_crate 28 = .ok (.getfield 142, 3) := by decide +kernel
theorem dX8_crate_31 : decode cX8_crate 31 = .ok (.bipush 20, 2) := by decide +kernel
theorem dX8_crate_33 : decode cX8_crate 33 = .ok (.if_icmp .ne 7, 3) := by decide +kernel
theorem dX8_crate_36 : decode cX8_crate 36 = .ok (.iconst 2, 1) := by decide +kernel
theorem dX8_crate_37 : decode cX8_crate 37 = .ok (.goto 4, 3) := by decide +kernel
theorem dX8_crate_40 : decode cX8_crate 40 = .ok (.iconst 0, 1) := by decide +kernel
theorem dX8_crate_41 : decode cX8_crate 41 = .ok (.invokevirtual 133, 3) := by decide +kernel
theorem dX8_crate_44 : decode cX8_crate 44 = .ok (.ifCond .eq 5, 3) := by decide +kernel
theorem dX8_crate_47 : decode cX8_crate 47 = .ok (.iconst (-1), 1) := by decide +kernel
theorem dX8_crate_48 : decode cX8_crate 48 = .ok (.ireturn, 1) := by decide +kernel
theorem dX8_crate_49 : decode cX8_crate 49 = .ok (.aload_n 0, 1) := by decide +kernel
theorem dX8_crate_50 : decode cX8_crate 50 = .ok (.getfield 59, 3) := by decide +kernel
theorem dX8_crate_53 : decode cX8_crate 53 = .ok (.aload_n 0, 1) := by decide +kernel
theorem dX8_crate_54 : decode cX8_crate 54 = .ok (.getfield 142, 3) := by decide +kernel
theorem dX8_crate_57 : decode cX8_crate 57 = .ok (.iload_n 1, 1) := by decide +kernel
theorem dX8_crate_58 : decode cX8_crate 58 = .ok (.iastore, 1) := by decide +kernel
theorem dX8_crate_59 : decode cX8_crate 59 = .ok (.aload_n 0, 1) := by decide +kernel
theorem dX8_crate_60 : decode cX8_crate 60 = .ok (.getfield 62, 3) := by decide +kernel
theorem dX8_crate_63 : decode cX8_crate 63 = .ok (.aload_n 0, 1) := by decide +kernel
theorem dX8_crate_64 : decode cX8_crate 64 = .ok (.getfield 142, 3) := by decide +kernel
theorem dX8_crate_67 : decode cX8_crate 67 = .ok (.iload_n 2, 1) := by decide +kernel
theorem dX8_crate_68 : decode cX8_crate 68 = .ok (.iastore, 1) := by decide +kernel
theorem dX8_crate_69 : decode cX8_crate 69 = .ok (.aload_n 0, 1) := by decide +kernel
theorem dX8_crate_70 : decode cX8_crate 70 = .ok (.dup, 1) := by decide +kernel
theorem dX8_crate_71 : decode cX8_crate 71 = .ok (.getfield 142, 3) := by decide +kernel
theorem dX8_crate_74 : decode cX8_crate 74 = .ok (.iconst 1, 1) := by decide +kernel
theorem dX8_crate_75 : decode cX8_crate 75 = .ok (.iadd, 1) := by decide +kernel
theorem dX8_crate_76 : decode cX8_crate 76 = .ok (.putfield 142, 3) := by decide +kernel
theorem dX8_crate_79 : decode cX8_crate 79 = .ok (.aload_n 0, 1) := by decide +kernel
theorem dX8_crate_80 : decode cX8_crate 80 = .ok (.getfield 142, 3) := by decide +kernel
theorem dX8_crate_83 : decode cX8_crate 83 = .ok (.ireturn, 1) := by decide +kernel
set_option maxRecDepth 20000 in
theorem ggX8_fetch_X8_in : GoodIn wsX8_fetch wsX8_in := goodIn_r _ [9] (by decide +kernel) (by decide +kernel)
set_option maxRecDepth 20000 in
theorem gX8_fetch_X8_in : GoodIn wsX8_fetch (wsV RX8 125 RX8 yX8_in wsX8_in) := goodIn_app (goodIn_of _ (by decide +kernel)) ggX8_fetch_X8_in
set_option maxRecDepth 20000 in
theorem ggX8_fetch_X8_holds : GoodIn wsX8_fetch wsX8_holds := goodIn_r _ [13, 14, 15, 16, 17, 18, 19, 20, 21, 22, 23, 24, 25, 26, 27, 28, 29, 30, 31, 32, 33, 34, 35, 36, 37, 38, 39, 40, 41, 42, 43, 44, 45] (by decide +kernel) (by decide +kernel)
set_option maxRecDepth 20000 in
theorem gX8_fetch_X8_holds : GoodIn wsX8_fetch (wsV RX8 133 RX8 yX8_holds wsX8_holds) := goodIn_app (goodIn_of _ (by decide +kernel)) ggX8_fetch_X8_holds
theorem dX8_fetch_0 : decode cX8_fetch 0 = .ok (.aload_n 0, 1) := by decide +kernel
theorem dX8_fetch_1 : decode cX8_fetch 1 = .ok (.aload_n 0, 1) := by decide +kernel
theorem dX8_fetch_2 : decode cX8_fetch 2 = .ok (.iload_n 1, 1) := by decide +kernel
theorem dX8_fetch_3 : decode cX8_fetch 3 = .ok (.iconst 0, 1) := by decide +kernel
theorem dX8_fetch_4 : decode cX8_fetch 4 = .ok (.bipush 9, 2) := by decide +kernel
theorem dX8_fetch_6 : decode cX8_fetch 6 = .ok (.invokevirtual 125, 3) := by decide +kernel
theorem dX8_fetch_9 : decode cX8_fetch 9 = .ok (.ifCond .eq 7, 3) := by decide +kernel
theorem dX8_fetch_12 : decode cX8_fetch 12 = .ok (.iconst 0, 1) := by decide +kernel
theorem dX8_fetch_13 : decode cX8_fetch 13 = .ok (.goto 4, 3) := by decide +kernel
theorem dX8_fetch_16 : decode cX8_fetch 16 = .ok (.iconst 1, 1) := by decide +kernel
theorem dX8_fetch_17 : decode cX8_fetch 17 = .ok (.invokevirtual 133, 3) := by decide +kernel
theorem dX8_fetch_20 : decode cX8_fetch 20 = .ok (.ifCond .eq 5, 3) := by decide +kernel
theorem dX8_fetch_23 : decode cX8_fetch 23 = .ok (.iconst (-1), 1) := by decide +kernel
theorem dX8_fetch_24 : decode cX8_fetch 24 = .ok (.ireturn, 1) := by decide +kernel
theorem dX8_fetch_25 : decode cX8_fetch 25 = .ok (.iconst (-1), 1) := by decide +kernel
theorem dX8_fetch_26 : decode cX8_fetch 26 = .ok (.istore_n 2, 1) := by decide +kernel
theorem dX8_fetch_27 : decode cX8_fetch 27 = .ok (.iconst 0, 1) := by decide +kernel
theorem dX8_fetch_28 : decode cX8_fetch 28 = .ok (.istore_n 3, 1) := by decide +kernel
theorem dX8_fetch_29 : decode cX8_fetch 29 = .ok (.iload_n 3, 1) := by decide +kernel
theorem dX8_fetch_30 : decode cX8_fetch 30 = .ok (.aload_n 0, 1) := by decide +kernel
theorem dX8_fetch_31 : decode cX8_fetch 31 = .ok (.getfield 142, 3) := by decide +kernel
theorem dX8_fetch_34 : decode cX8_fetch 34 = .ok (.if_icmp .ge 25, 3) := by decide +kernel
theorem dX8_fetch_37 : decode cX8_fetch 37 = .ok (.aload_n 0, 1) := by decide +kernel
theorem dX8_fetch_38 : decode cX8_fetch 38 = .ok (.getfield 59, 3) := by decide +kernel
theorem dX8_fetch_41 : decode cX8_fetch 41 = .ok (.iload_n 3, 1) := by decide +kernel
theorem dX8_fetch_42 : decode cX8_fetch 42 = .ok (.iaload, 1) := by decide +kernel
theorem dX8_fetch_43 : decode cX8_fetch 43 = .ok (.iload_n 1, 1) := by decide +kernel
theorem dX8_fetch_44 : decode cX8_fetch 44 = .ok (.if_icmp .ne 7, 3) := by decide +kernel
theorem dX8_fetch_47 : decode cX8_fetch 47 = .ok (.iload_n 3, 1) := by decide +kernel
theorem dX8_fetch_48 : decode cX8_fetch 48 = .ok (.goto 4, 3) := by decide +kernel
theorem dX8_fetch_51 : decode cX8_fetch 51 = .ok (.iload_n 2, 1) := by decide +kernel
theorem dX8_fetch_52 : decode cX8_fetch 52 = .ok (.istore_n 2, 1) := by decide +kernel
theorem dX8_fetch_53 : decode cX8_fetch 53 = .ok (.iinc 3 1, 3) := by decide +kernel
theorem dX8_fetch_56 : decode cX8_fetch 56 = .ok (.goto (-27), 3) := by decide +kernel
theorem dX8_fetch_59 : decode cX8_fetch 59 = .ok (.iload_n 2, 1) := by decide +kernel
theorem dX8_fetch_60 : decode cX8_fetch 60 = .ok (.ifCond .ge 5, 3) := by decide +kernel
theorem dX8_fetch_63 : decode cX8_fetch 63 = .ok (.iconst (-1), 1) := by decide +kernel
theorem dX8_fetch_64 : decode cX8_fetch 64 = .ok (.ireturn, 1) := by decide +kernel
theorem dX8_fetch_65 : decode cX8_fetch 65 = .ok (.aload_n 0, 1) := by decide +kernel
theorem dX8_fetch_66 : decode cX8_fetch 66 = .ok (.getfield 62, 3) := by decide +kernel
theorem dX8_fetch_69 : decode cX8_fetch 69 = .ok (.iload_n 2, 1) := by decide +kernel
theorem dX8_fetch_70 : decode cX8_fetch 70 = .ok (.iaload, 1) := by decide +kernel
theorem dX8_fetch_71 : decode cX8_fetch 71 = .ok (.istore_n 3, 1) := by decide +kernel
theorem dX8_fetch_72 : decode cX8_fetch 72 = .ok (.aload_n 0, 1) := by decide +kernel
theorem dX8_fetch_73 : decode cX8_fetch 73 = .ok (.dup, 1) := by decide +kernel
theorem dX8_fetch_74 : decode cX8_fetch 74 = .ok (.getfield 142, 3) := by decide +kernel
theorem dX8_fetch_77 : decode cX8_fetch 77 = .ok (.iconst 1, 1) := by decide +kernel
theorem dX8_fetch_78 : decode cX8_fetch 78 = .ok (.isub, 1) := by decide +kernel
theorem dX8_fetch_79 : decode cX8_fetch 79 = .ok (.putfield 142, 3) := by decide +kernel
theorem dX8_fetch_82 : decode cX8_fetch 82 = .ok (.aload_n 0, 1) := by decide +kernel
theorem dX8_fetch_83 : decode cX8_fetch 83 = .ok (.dup, 1) := by decide +kernel
theorem dX8_fetch_84 : decode cX8_fetch 84 = .ok (.getfield 145, 3) := by decide +kernel
theorem dX8_fetch_87 : decode cX8_fetch 87 = .ok (.iconst 2, 1) := by decide +kernel
theorem dX8_fetch_88 : decode cX8_fetch 88 = .ok (.aload_n 0, 1) := by decide +kernel
theorem dX8_fetch_89 : decode cX8_fetch 89 = .ok (.getfield 142, 3) := by decide +kernel
theorem dX8_fetch_92 : decode cX8_fetch 92 = .ok (.iload_n 2, 1) := by decide +kernel
theorem dX8_fetch_93 : decode cX8_fetch 93 = .ok (.isub, 1) := by decide +kernel
theorem dX8_fetch_94 : decode cX8_fetch 94 = .ok (.imul, 1) := by decide +kernel
theorem dX8_fetch_95 : decode cX8_fetch 95 = .ok (.iadd, 1) := by decide +kernel
theorem dX8_fetch_96 : decode cX8_fetch 96 = .ok (.putfield 145, 3) := by decide +kernel
theorem dX8_fetch_99 : decode cX8_fetch 99 = .ok (.iload_n 2, 1) := by decide +kernel
theorem dX8_fetch_100 : decode cX8_fetch 100 = .ok (.istore 4, 2) := by decide +kernel
theorem dX8_fetch_102 : decode cX8_fetch 102 = .ok (.iload 4, 2) := by decide +kernel
theorem dX8_fetch_104 : decode cX8_fetch 104 = .ok (.aload_n 0, 1) := by decide +kernel
theorem dX8_fetch_105 : decode cX8_fetch 105 = .ok (.getfield 142, 3) := by decide +kernel
theorem dX8_fetch_108 : decode cX8_fetch 108 = .ok (.if_icmp .ge 41, 3) := by decide +kernel
theorem dX8_fetch_111 : decode cX8_fetch 111 = .ok (.aload_n 0, 1) := by decide +kernel
theorem dX8_fetch_112 : decode cX8_fetch 112 = .ok (.getfield 59, 3) := by decide +kernel
theorem dX8_fetch_115 : decode cX8_fetch 115 = .ok (.iload 4, 2) := by decide +kernel
theorem dX8_fetch_117 : decode cX8_fetch 117 = .ok (.aload_n 0, 1) := by decide +kernel
theorem dX8_fetch_118 : decode cX8_fetch 118 = .ok (.getfield 59, 3) := by decide +kernel
theorem dX8_fetch_121 : decode cX8_fetch 121 = .ok (.iload 4, 2) := by decide +kernel
theorem dX8_fetch_123 : decode cX8_fetch 123 = .ok (.iconst 1, 1) := by decide +kernel
theorem dX8_fetch_124 : decode cX8_fetch 124 = .ok (.iadd, 1) := by decide +kernel
theorem dX8_fetch_125 : decode cX8_fetch 125 = .ok (.iaload, 1) := by decide +kernel
theorem dX8_fetch_126 : decode cX8_fetch 126 = .ok (.iastore, 1) := by decide +kernel
theorem dX8_fetch_127 : decode cX8_fetch 127 = .ok (.aload_n 0, 1) := by decide +kernel
theorem dX8_fetch_128 : decode cX8_fetch 128 = .ok (.getfield 62, 3) := by decide +kernel
theorem dX8_fetch_131 : decode cX8_fetch 131 = .ok (.iload 4, 2) := by decide +kernel
theorem dX8_fetch_133 : decode cX8_fetch 133 = .ok (.aload_n 0, 1) := by decide +kernel
theorem dX8_fetch_134 : decode cX8_fetch 134 = .ok (.getfield 62, 3) := by decide +kernel
theorem dX8_fetch_137 : decode cX8_fetch 137 = .ok (.iload 4, 2) := by decide +kernel
theorem dX8_fetch_139 : decode cX8_fetch 139 = .ok (.iconst 1, 1) := by decide +kernel
theorem dX8_fetch_140 : decode cX8_fetch 140 = .ok (.iadd, 1) := by decide +kernel
theorem dX8_fetch_141 : decode cX8_fetch 141 = .ok (.iaload, 1) := by decide +kernel
theorem dX8_fetch_142 : decode cX8_fetch 142 = .ok (.iastore, 1) := by decide +kernel
theorem dX8_fetch_143 : decode cX8_fetch 143 = .ok (.iinc 4 1, 3) := by decide +kernel
theorem dX8_fetch_146 : decode cX8_fetch 146 = .ok (.goto (-44), 3) := by decide +kernel
theorem dX8_fetch_149 : decode cX8_fetch 149 = .ok (.iload_n 3, 1) := by decide +kernel
theorem dX8_fetch_150 : decode cX8_fetch 150 = .ok (.ireturn, 1) := by decide +kernel
set_option maxRecDepth 20000 in
theorem ggX8_moves_X8_holds : GoodIn wsX8_moves wsX8_holds := goodIn_r _ [6, 7, 8, 9, 10, 11, 12, 13, 14, 15, 16, 17, 18, 19, 20, 21, 22, 23, 24, 25, 26, 27, 28, 29, 30, 31, 32, 33, 34, 35, 36, 37, 38] (by decide +kernel) (by decide +kernel)
set_option maxRecDepth 20000 in
theorem gX8_moves_X8_holds : GoodIn wsX8_moves (wsV RX8 133 RX8 yX8_holds wsX8_holds) := goodIn_app (goodIn_of _ (by decide +kernel)) ggX8_moves_X8_holds
theorem dX8_moves_0 : decode cX8_moves 0 = .ok (.aload_n 0, 1) := by decide +kernel
theorem dX8_moves_1 : decode cX8_moves 1 = .ok (.iconst 0, 1) := by decide +kernel
theorem dX8_moves_2 : decode cX8_moves 2 = .ok (.invokevirtual 133, 3) := by decide +kernel
theorem dX8_moves_5 : decode cX8_moves 5 = .ok (.pop, 1) := by decide +kernel
theorem dX8_moves_6 : decode cX8_moves 6 = .ok (.aload_n 0, 1) := by decide +kernel
theorem dX8_moves_7 : decode cX8_moves 7 = .ok (.getfield 145, 3) := by decide +kernel
theorem dX8_moves_10 : decode cX8_moves 10 = .ok (.ireturn, 1) := by decide +kernel
set_option maxRecDepth 20000 in
theorem ggX8_grout_X8_in : GoodIn wsX8_grout wsX8_in := goodIn_r _ [6] (by decide +kernel) (by decide +kernel)
set_option maxRecDepth 20000 in
theorem gX8_grout_X8_in : GoodIn wsX8_grout (wsV RX8 125 RX8 yX8_in wsX8_in) := goodIn_app (goodIn_of _ (by decide +kernel)) ggX8_grout_X8_in
set_option maxRecDepth 20000 in
theorem ggX8_grout_X8_holds : GoodIn wsX8_grout wsX8_holds := goodIn_r _ [10, 11, 12, 13, 14, 15, 16, 17, 18, 19, 20, 21, 22, 23, 24, 25, 26, 27, 28, 29, 30, 31, 32, 33, 34, 35, 36, 37, 38, 39, 40, 41, 42] (by decide +kernel) (by decide +kernel)
set_option maxRecDepth 20000 in
theorem gX8_grout_X8_holds : GoodIn wsX8_grout (wsV RX8 133 RX8 yX8_holds wsX8_holds) := goodIn_app (goodIn_of _ (by decide +kernel)) ggX8_grout_X8_holds
theorem dX8_grout_0 : decode cX8_grout 0 = .ok (.aload_n 0, 1) := by decide +kernel
theorem dX8_grout_1 : decode cX8_grout 1 = .ok (.aload_n 0, 1) := by decide +kernel
theorem dX8_grout_2 : decode cX8_grout 2 = .ok (.iload_n 1, 1) := by decide +kernel
theorem dX8_grout_3 : decode cX8_grout 3 = .ok (.iconst 0, 1) := by decide +kernel
theorem dX8_grout_4 : decode cX8_grout 4 = .ok (.bipush 48, 2) := by decide +kernel
theorem dX8_grout_6 : decode cX8_grout 6 = .ok (.invokevirtual 125, 3) := by decide +kernel
theorem dX8_grout_9 : decode cX8_grout 9 = .ok (.ifCond .eq 7, 3) := by decide +kernel
theorem dX8_grout_12 : decode cX8_grout 12 = .ok (.iconst 0, 1) := by decide +kernel
theorem dX8_grout_13 : decode cX8_grout 13 = .ok (.goto 4, 3) := by decide +kernel
theorem dX8_grout_16 : decode cX8_grout 16 = .ok (.iconst 1, 1) := by decide +kernel
theorem dX8_grout_17 : decode cX8_grout 17 = .ok (.invokevirtual 133, 3) := by decide +kernel
theorem dX8_grout_20 : decode cX8_grout 20 = .ok (.ifCond .eq 5, 3) := by decide +kernel
theorem dX8_grout_23 : decode cX8_grout 23 = .ok (.iconst (-1), 1) := by decide +kernel
theorem dX8_grout_24 : decode cX8_grout 24 = .ok (.ireturn, 1) := by decide +kernel
theorem dX8_grout_25 : decode cX8_grout 25 = .ok (.aload_n 0, 1) := by decide +kernel
theorem dX8_grout_26 : decode cX8_grout 26 = .ok (.getfield 68, 3) := by decide +kernel
theorem dX8_grout_29 : decode cX8_grout 29 = .ok (.istore_n 2, 1) := by decide +kernel
theorem dX8_grout_30 : decode cX8_grout 30 = .ok (.aload_n 0, 1) := by decide +kernel
theorem dX8_grout_31 : decode cX8_grout 31 = .ok (.iload_n 1, 1) := by decide +kernel
theorem dX8_grout_32 : decode cX8_grout 32 = .ok (.putfield 68, 3) := by decide +kernel
theorem dX8_grout_35 : decode cX8_grout 35 = .ok (.iload_n 2, 1) := by decide +kernel
theorem dX8_grout_36 : decode cX8_grout 36 = .ok (.ireturn, 1) := by decide +kernel
theorem dX8_isWet_0 : decode cX8_isWet 0 = .ok (.iconst 0, 1) := by decide +kernel
theorem dX8_isWet_1 : decode cX8_isWet 1 = .ok (.istore_n 2, 1) := by decide +kernel
theorem dX8_isWet_2 : decode cX8_isWet 2 = .ok (.iconst 0, 1) := by decide +kernel
theorem dX8_isWet_3 : decode cX8_isWet 3 = .ok (.istore_n 3, 1) := by decide +kernel
theorem dX8_isWet_4 : decode cX8_isWet 4 = .ok (.iload_n 3, 1) := by decide +kernel
theorem dX8_isWet_5 : decode cX8_isWet 5 = .ok (.iload_n 1, 1) := by decide +kernel
theorem dX8_isWet_6 : decode cX8_isWet 6 = .ok (.if_icmp .ge 30, 3) := by decide +kernel
theorem dX8_isWet_9 : decode cX8_isWet 9 = .ok (.iload_n 2, 1) := by decide +kernel
theorem dX8_isWet_10 : decode cX8_isWet 10 = .ok (.aload_n 0, 1) := by decide +kernel
theorem dX8_isWet_11 : decode cX8_isWet 11 = .ok (.getfield 65, 3) := by decide +kernel
theorem dX8_isWet_14 : decode cX8_isWet 14 = .ok (.iload_n 3, 1) := by decide +kernel
theorem dX8_isWet_15 : decode cX8_isWet 15 = .ok (.iaload, 1) := by decide +kernel
theorem dX8_isWet_16 : decode cX8_isWet 16 = .ok (.aload_n 0, 1) := by decide +kernel
theorem dX8_isWet_17 : decode cX8_isWet 17 = .ok (.getfield 148, 3) := by decide +kernel
theorem dX8_isWet_20 : decode cX8_isWet 20 = .ok (.if_icmp .le 7, 3) := by decide +kernel
theorem dX8_isWet_23 : decode cX8_isWet 23 = .ok (.iconst 1, 1) := by decide +kernel
theorem dX8_isWet_24 : decode cX8_isWet 24 = .ok (.goto 4, 3) := by decide +kernel
theorem dX8_isWet_27 : decode cX8_isWet 27 = .ok (.iconst 0, 1) := by decide +kernel
theorem dX8_isWet_28 : decode cX8_isWet 28 = .ok (.ior, 1) := by decide +kernel
theorem dX8_isWet_29 : decode cX8_isWet 29 = .ok (.istore_n 2, 1) := by decide +kernel
theorem dX8_isWet_30 : decode cX8_isWet 30 = .ok (.iinc 3 1, 3) := by decide +kernel
theorem dX8_isWet_33 : decode cX8_isWet 33 = .ok (.goto (-29), 3) := by decide +kernel
theorem dX8_isWet_36 : decode cX8_isWet 36 = .ok (.iload_n 2, 1) := by decide +kernel
theorem dX8_isWet_37 : decode cX8_isWet 37 = .ok (.ireturn, 1) := by decide +kernel
set_option maxRecDepth 20000 in
theorem ggX8_piecesOf_X8_stripOfRow : GoodIn wsX8_piecesOf wsX8_stripOfRow := goodIn_r _ [7, 8, 9, 10, 11, 12, 6, 13, 14, 15, 16, 17, 18, 19, 20, 21, 22, 23, 24, 25, 26, 27, 28, 29, 30, 31, 32, 33, 34, 35, 36, 37, 38, 39, 40, 41, 42, 43, 44] (by decide +kernel) (by decide +kernel)
set_option maxRecDepth 20000 in
theorem gX8_piecesOf_X8_stripOfRow : GoodIn wsX8_piecesOf (wsV RX8 139 RX8 yX8_stripOfRow wsX8_stripOfRow) := goodIn_app (goodIn_of _ (by decide +kernel)) ggX8_piecesOf_X8_stripOfRow
theorem dX8_piecesOf_0 : decode cX8_piecesOf 0 = .ok (.iconst 0, 1) := by decide +kernel
theorem dX8_piecesOf_1 : decode cX8_piecesOf 1 = .ok (.istore_n 2, 1) := by decide +kernel
theorem dX8_piecesOf_2 : decode cX8_piecesOf 2 = .ok (.iconst 0, 1) := by decide +kernel
theorem dX8_piecesOf_3 : decode cX8_piecesOf 3 = .ok (.istore_n 3, 1) := by decide +kernel
theorem dX8_piecesOf_4 : decode cX8_piecesOf 4 = .ok (.iload_n 3, 1) := by decide +kernel
theorem dX8_piecesOf_5 : decode cX8_piecesOf 5 = .ok (.aload_n 0, 1) := by decide +kernel
theorem dX8_piecesOf_6 : decode cX8_piecesOf 6 = .ok (.getfield 94, 3) := by decide +kernel
theorem dX8_piecesOf_9 : decode cX8_piecesOf 9 = .ok (.if_icmp .ge 34, 3) := by decide +kernel
theorem dX8_piecesOf_12 : decode cX8_piecesOf 12 = .ok (.iload_n 2, 1) := by decide +kernel
theorem dX8_piecesOf_13 : decode cX8_piecesOf 13 = .ok (.aload_n 0, 1) := by decide +kernel
theorem dX8_piecesOf_14 : decode cX8_piecesOf 14 = .ok (.aload_n 0, 1) := by decide +kernel
theorem dX8_piecesOf_15 : decode cX8_piecesOf 15 = .ok (.getfield 26, 3) := by decide +kernel
theorem dX8_piecesOf_18 : decode cX8_piecesOf 18 = .ok (.iload_n 3, 1) := by decide +kernel
theorem dX8_piecesOf_19 : decode cX8_piecesOf 19 = .ok (.iaload, 1) := by decide +kernel
theorem dX8_piecesOf_20 : decode cX8_piecesOf 20 = .ok (.bipush 12, 2) := by decide +kernel
theorem dX8_piecesOf_22 : decode cX8_piecesOf 22 = .ok (.idiv, 1) := by decide +kernel
theorem dX8_piecesOf_23 : decode cX8_piecesOf 23 = .ok (.invokevirtual 139, 3) := by decide +kernel
theorem dX8_piecesOf_26 : decode cX8_piecesOf 26 = .ok (.iload_n 1, 1) := by decide +kernel
theorem dX8_piecesOf_27 : decode cX8_piecesOf 27 = .ok (.if_icmp .ne 7, 3) := by decide +kernel
theorem dX8_piecesOf_30 : decode cX8_piecesOf 30 = .ok (.iconst 1, 1) := by decide +kernel
theorem dX8_piecesOf_31 : decode cX8_piecesOf 31 = .ok (.goto 4, 3) := by decide +kernel
theorem dX8_piecesOf_34 : decode cX8_piecesOf 34 = .ok (.iconst 0, 1) := by decide +kernel
theorem dX8_piecesOf_35 : decode cX8_piecesOf 35 = .ok (.iadd, 1) := by decide +kernel
theorem dX8_piecesOf_36 : decode cX8_piecesOf 36 = .ok (.istore_n 2, 1) := by decide +kernel
theorem dX8_piecesOf_37 : decode cX8_piecesOf 37 = .ok (.iinc 3 1, 3) := by decide +kernel
theorem dX8_piecesOf_40 : decode cX8_piecesOf 40 = .ok (.goto (-36), 3) := by decide +kernel
theorem dX8_piecesOf_43 : decode cX8_piecesOf 43 = .ok (.iload_n 2, 1) := by decide +kernel
theorem dX8_piecesOf_44 : decode cX8_piecesOf 44 = .ok (.ireturn, 1) := by decide +kernel
set_option maxRecDepth 20000 in
theorem ggX8_isStrip_X8_stripCount : GoodIn wsX8_isStrip wsX8_stripCount := goodIn_r _ [5, 6, 7, 8, 9, 4, 10, 11, 16, 17, 18, 19, 20, 21, 22, 23, 24, 25, 26, 27, 28, 29, 30, 31, 32, 33, 34, 35, 36, 37, 38, 39, 40, 41, 42, 43, 44, 45, 46] (by decide +kernel) (by decide +kernel)
set_option maxRecDepth 20000 in
theorem gX8_isStrip_X8_stripCount : GoodIn wsX8_isStrip (wsV RX8 151 RX8 yX8_stripCount wsX8_stripCount) := goodIn_app (goodIn_of _ (by decide +kernel)) ggX8_isStrip_X8_stripCount
set_option maxRecDepth 20000 in
theorem ggX8_isStrip_X8_in : GoodIn wsX8_isStrip wsX8_in := goodIn_r _ [15] (by decide +kernel) (by decide +kernel)
set_option maxRecDepth 20000 in
theorem gX8_isStrip_X8_in : GoodIn wsX8_isStrip (wsV RX8 125 RX8 yX8_in wsX8_in) := goodIn_app (goodIn_of _ (by decide +kernel)) ggX8_isStrip_X8_in
theorem dX8_isStrip_0 : decode cX8_isStrip 0 = .ok (.aload_n 0, 1) := by decide +kernel
theorem dX8_isStrip_1 : decode cX8_isStrip 1 = .ok (.iload_n 1, 1) := by decide +kernel
theorem dX8_isStrip_2 : decode cX8_isStrip 2 = .ok (.iconst 0, 1) := by decide +kernel
theorem dX8_isStrip_3 : decode cX8_isStrip 3 = .ok (.aload_n 0, 1) := by decide +kernel
theorem dX8_isStrip_4 : decode cX8_isStrip 4 = .ok (.invokevirtual 151, 3) := by decide +kernel
theorem dX8_isStrip_7 : decode cX8_isStrip 7 = .ok (.iconst 1, 1) := by decide +kernel
theorem dX8_isStrip_8 : decode cX8_isStrip 8 = .ok (.isub, 1) := by decide +kernel
theorem dX8_isStrip_9 : decode cX8_isStrip 9 = .ok (.invokevirtual 125, 3) := by decide +kernel
theorem dX8_isStrip_12 : decode cX8_isStrip 12 = .ok (.ireturn, 1) := by decide +kernel
set_option maxRecDepth 20000 in
theorem ggX8_lay_X8_isStrip : GoodIn wsX8_lay wsX8_isStrip := goodIn_r _ [9, 10, 11, 12, 8, 13, 14, 15, 16, 17, 18, 19, 20, 21, 22, 23, 43, 44, 45, 46, 47, 48, 49, 50, 51, 52, 53, 54, 55, 56, 57, 58, 59, 60, 61, 62, 63, 64, 65, 66, 67, 68, 69, 70, 71, 72, 73] (by decide +kernel) (by decide +kernel)
set_option maxRecDepth 20000 in
theorem gX8_lay_X8_isStrip : GoodIn wsX8_lay (wsV RX8 154 RX8 yX8_isStrip wsX8_isStrip) := goodIn_app (goodIn_of _ (by decide +kernel)) ggX8_lay_X8_isStrip
set_option maxRecDepth 20000 in
theorem ggX8_lay_X8_isWet : GoodIn wsX8_lay wsX8_isWet := goodIn_r _ [27, 1, 2, 43, 44, 45, 46, 47, 48, 49, 50, 51, 52, 53, 54, 55, 56, 57, 58, 59, 60, 61, 62, 63, 64, 65, 66, 67, 68, 69, 70, 71, 72, 73] (by decide +kernel) (by decide +kernel)
set_option maxRecDepth 20000 in
theorem gX8_lay_X8_isWet : GoodIn wsX8_lay (wsV RX8 157 RX8 yX8_isWet wsX8_isWet) := goodIn_app (goodIn_of _ (by decide +kernel)) ggX8_lay_X8_isWet
set_option maxRecDepth 20000 in
theorem ggX8_lay_X8_holds : GoodIn wsX8_lay wsX8_holds := goodIn_r _ [31, 32, 43, 44, 45, 46, 47, 48, 49, 50, 51, 52, 53, 54, 55, 56, 57, 58, 59, 60, 61, 62, 63, 64, 65, 66, 67, 68, 69, 70, 71, 72, 73] (by decide +kernel) (by decide +kernel)
set_option maxRecDepth 20000 in
theorem gX8_lay_X8_holds : GoodIn wsX8_lay (wsV RX8 133 RX8 yX8_holds wsX8_holds) := goodIn_app (goodIn_of _ (by decide +kernel)) ggX8_lay_X8_holds
set_option maxRecDepth 20000 in
theorem ggX8_lay_X8_piecesOf : GoodIn wsX8_lay wsX8_piecesOf := goodIn_r _ [36, 37, 38, 39, 40, 41, 8, 42, 14, 19, 15, 16, 17, 18, 43, 44, 45, 46, 47, 48, 49, 50, 51, 52, 53, 54, 55, 56, 57, 58, 59, 60, 61, 62, 63, 64, 65, 66, 67, 68, 69, 70, 71, 72, 73] (by decide +kernel) (by decide +kernel)
set_option maxRecDepth 20000 in
theorem gX8_lay_X8_piecesOf : GoodIn wsX8_lay (wsV RX8 160 RX8 yX8_piecesOf wsX8_piecesOf) := goodIn_app (goodIn_of _ (by decide +kernel)) ggX8_lay_X8_piecesOf
theorem dX8_lay_0 : decode cX8_lay 0 = .ok (.aload_n 0, 1) := by decide +kernel
theorem dX8_lay_1 : decode cX8_lay 1 = .ok (.iload_n 1, 1) := by decide +kernel
theorem dX8_lay_2 : decode cX8_lay 2 = .ok (.invokevirtual 154, 3) := by decide +kernel
theorem dX8_lay_5 : decode cX8_lay 5 = .ok (.istore_n 2, 1) := by decide +kernel
theorem dX8_lay_6 : decode cX8_lay 6 = .ok (.aload_n 0, 1) := by decide +kernel
theorem dX8_lay_7 : decode cX8_lay 7 = .ok (.iload_n 2, 1) := by decide +kernel
theorem dX8_lay_8 : decode cX8_lay 8 = .ok (.ifCond .ne 7, 3) := by decide +kernel
theorem dX8_lay_11 : decode cX8_lay 11 = .ok (.iconst 1, 1) := by decide +kernel
theorem dX8_lay_12 : decode cX8_lay 12 = .ok (.goto 25, 3) := by decide +kernel
theorem dX8_lay_15 : decode cX8_lay 15 = .ok (.aload_n 0, 1) := by decide +kernel
theorem dX8_lay_16 : decode cX8_lay 16 = .ok (.getfield 65, 3) := by decide +kernel
theorem dX8_lay_19 : decode cX8_lay 19 = .ok (.iload_n 1, 1) := by decide +kernel
theorem dX8_lay_20 : decode cX8_lay 20 = .ok (.iaload, 1) := by decide +kernel
theorem dX8_lay_21 : decode cX8_lay 21 = .ok (.ifCond .ge 11, 3) := by decide +kernel
theorem dX8_lay_24 : decode cX8_lay 24 = .ok (.aload_n 0, 1) := by decide +kernel
theorem dX8_lay_25 : decode cX8_lay 25 = .ok (.iload_n 1, 1) := by decide +kernel
theorem dX8_lay_26 : decode cX8_lay 26 = .ok (.invokevirtual 157, 3) := by decide +kernel
theorem dX8_lay_29 : decode cX8_lay 29 = .ok (.ifCond .eq 7, 3) := by decide +kernel
theorem dX8_lay_32 : decode cX8_lay 32 = .ok (.iconst 2, 1) := by decide +kernel
theorem dX8_lay_33 : decode cX8_lay 33 = .ok (.goto 4, 3) := by decide +kernel
theorem dX8_lay_36 : decode cX8_lay 36 = .ok (.iconst 0, 1) := by decide +kernel
theorem dX8_lay_37 : decode cX8_lay 37 = .ok (.invokevirtual 133, 3) := by decide +kernel
theorem dX8_lay_40 : decode cX8_lay 40 = .ok (.ifCond .eq 5, 3) := by decide +kernel
theorem dX8_lay_43 : decode cX8_lay 43 = .ok (.iconst (-1), 1) := by decide +kernel
theorem dX8_lay_44 : decode cX8_lay 44 = .ok (.ireturn, 1) := by decide +kernel
theorem dX8_lay_45 : decode cX8_lay 45 = .ok (.aload_n 0, 1) := by decide +kernel
theorem dX8_lay_46 : decode cX8_lay 46 = .ok (.dup, 1) := by decide +kernel
theorem dX8_lay_47 : decode cX8_lay 47 = .ok (.getfield 148, 3) := by decide +kernel
theorem dX8_lay_50 : decode cX8_lay 50 = .ok (.aload_n 0, 1) := by decide +kernel
theorem dX8_lay_51 : decode cX8_lay 51 = .ok (.iload_n 1, 1) := by decide +kernel
theorem dX8_lay_52 : decode cX8_lay 52 = .ok (.invokevirtual 160, 3) := by decide +kernel
theorem dX8_lay_55 : decode cX8_lay 55 = .ok (.iconst 3, 1) := by decide +kernel
theorem dX8_lay_56 : decode cX8_lay 56 = .ok (.iadd, 1) := by decide +kernel
theorem dX8_lay_57 : decode cX8_lay 57 = .ok (.iconst 4, 1) := by decide +kernel
theorem dX8_lay_58 : decode cX8_lay 58 = .ok (.idiv, 1) := by decide +kernel
theorem dX8_lay_59 : decode cX8_lay 59 = .ok (.iadd, 1) := by decide +kernel
theorem dX8_lay_60 : decode cX8_lay 60 = .ok (.putfield 148, 3) := by decide +kernel
theorem dX8_lay_63 : decode cX8_lay 63 = .ok (.aload_n 0, 1) := by decide +kernel
theorem dX8_lay_64 : decode cX8_lay 64 = .ok (.getfield 65, 3) := by decide +kernel
theorem dX8_lay_67 : decode cX8_lay 67 = .ok (.iload_n 1, 1) := by decide +kernel
theorem dX8_lay_68 : decode cX8_lay 68 = .ok (.aload_n 0, 1) := by decide +kernel
theorem dX8_lay_69 : decode cX8_lay 69 = .ok (.getfield 148, 3) := by decide +kernel
theorem dX8_lay_72 : decode cX8_lay 72 = .ok (.aload_n 0, 1) := by decide +kernel
theorem dX8_lay_73 : decode cX8_lay 73 = .ok (.getfield 68, 3) := by decide +kernel
theorem dX8_lay_76 : decode cX8_lay 76 = .ok (.iadd, 1) := by decide +kernel
theorem dX8_lay_77 : decode cX8_lay 77 = .ok (.iastore, 1) := by decide +kernel
theorem dX8_lay_78 : decode cX8_lay 78 = .ok (.aload_n 0, 1) := by decide +kernel
theorem dX8_lay_79 : decode cX8_lay 79 = .ok (.iconst 1, 1) := by decide +kernel
theorem dX8_lay_80 : decode cX8_lay 80 = .ok (.putfield 129, 3) := by decide +kernel
theorem dX8_lay_83 : decode cX8_lay 83 = .ok (.aload_n 0, 1) := by decide +kernel
theorem dX8_lay_84 : decode cX8_lay 84 = .ok (.getfield 148, 3) := by decide +kernel
theorem dX8_lay_87 : decode cX8_lay 87 = .ok (.ireturn, 1) := by decide +kernel
set_option maxRecDepth 20000 in
theorem ggX8_dry_X8_isStrip : GoodIn wsX8_dry wsX8_isStrip := goodIn_r _ [6, 7, 8, 9, 5, 10, 11, 12, 13, 14, 15, 16, 17, 18, 19, 20, 26, 27, 28, 29, 30, 31, 32, 33, 34, 35, 36, 37, 38, 39, 40, 41, 42, 43, 44, 45, 46, 47, 48, 49, 50, 51, 52, 53, 54, 55, 56] (by decide +kernel) (by decide +kernel)
set_option maxRecDepth 20000 in
theorem gX8_dry_X8_isStrip : GoodIn wsX8_dry (wsV RX8 154 RX8 yX8_isStrip wsX8_isStrip) := goodIn_app (goodIn_of _ (by decide +kernel)) ggX8_dry_X8_isStrip
set_option maxRecDepth 20000 in
theorem ggX8_dry_X8_holds : GoodIn wsX8_dry wsX8_holds := goodIn_r _ [24, 25, 26, 27, 28, 29, 30, 31, 32, 33, 34, 35, 36, 37, 38, 39, 40, 41, 42, 43, 44, 45, 46, 47, 48, 49, 50, 51, 52, 53, 54, 55, 56] (by decide +kernel) (by decide +kernel)
set_option maxRecDepth 20000 in
theorem gX8_dry_X8_holds : GoodIn wsX8_dry (wsV RX8 133 RX8 yX8_holds wsX8_holds) := goodIn_app (goodIn_of _ (by decide +kernel)) ggX8_dry_X8_holds
theorem dX8_dry_0 : decode cX8_dry 0 = .ok (.aload_n 0, 1) := by decide +kernel
theorem dX8_dry_1 : decode cX8_dry 1 = .ok (.aload_n 0, 1) := by decide +kernel
theorem dX8_dry_2 : decode cX8_dry 2 = .ok (.iload_n 1, 1) := by decide +kernel
theorem dX8_dry_3 : decode cX8_dry 3 = .ok (.invokevirtual 154, 3) := by decide +kernel
theorem dX8_dry_6 : decode cX8_dry 6 = .ok (.ifCond .eq 7, 3) := by decide +kernel
theorem dX8_dry_9 : decode cX8_dry 9 = .ok (.iconst 0, 1) := by decide +kernel
theorem dX8_dry_10 : decode cX8_dry 10 = .ok (.goto 4, 3) := by decide +kernel
theorem dX8_dry_13 : decode cX8_dry 13 = .ok (.iconst 1, 1) := by decide +kernel
theorem dX8_dry_14 : decode cX8_dry 14 = .ok (.invokevirtual 133, 3) := by decide +kernel
theorem dX8_dry_17 : decode cX8_dry 17 = .ok (.ifCond .eq 7, 3) := by decide +kernel
theorem dX8_dry_20 : decode cX8_dry 20 = .ok (.iconst (-1), 1) := by decide +kernel
theorem dX8_dry_21 : decode cX8_dry 21 = .ok (.goto 9, 3) := by decide +kernel
theorem dX8_dry_24 : decode cX8_dry 24 = .ok (.aload_n 0, 1) := by decide +kernel
theorem dX8_dry_25 : decode cX8_dry 25 = .ok (.getfield 65, 3) := by decide +kernel
theorem dX8_dry_28 : decode cX8_dry 28 = .ok (.iload_n 1, 1) := by decide +kernel
theorem dX8_dry_29 : decode cX8_dry 29 = .ok (.iaload, 1) := by decide +kernel
theorem dX8_dry_30 : decode cX8_dry 30 = .ok (.ireturn, 1) := by decide +kernel
set_option maxRecDepth 20000 in
theorem ggX8_strips_X8_holds : GoodIn wsX8_strips wsX8_holds := goodIn_r _ [5, 6, 17, 18, 19, 20, 21, 22, 23, 24, 25, 26, 27, 28, 29, 30, 31, 32, 33, 34, 35, 36, 37, 38, 39, 40, 41, 42, 43, 44, 45, 46, 47] (by decide +kernel) (by decide +kernel)
set_option maxRecDepth 20000 in
theorem gX8_strips_X8_holds : GoodIn wsX8_strips (wsV RX8 133 RX8 yX8_holds wsX8_holds) := goodIn_app (goodIn_of _ (by decide +kernel)) ggX8_strips_X8_holds
set_option maxRecDepth 20000 in
theorem ggX8_strips_X8_stripCount : GoodIn wsX8_strips wsX8_stripCount := goodIn_r _ [10, 11, 12, 13, 14, 4, 15, 16, 17, 18, 19, 20, 21, 22, 23, 24, 25, 26, 27, 28, 29, 30, 31, 32, 33, 34, 35, 36, 37, 38, 39, 40, 41, 42, 43, 44, 45, 46, 47] (by decide +kernel) (by decide +kernel)
set_option maxRecDepth 20000 in
theorem gX8_strips_X8_stripCount : GoodIn wsX8_strips (wsV RX8 151 RX8 yX8_stripCount wsX8_stripCount) := goodIn_app (goodIn_of _ (by decide +kernel)) ggX8_strips_X8_stripCount
theorem dX8_strips_0 : decode cX8_strips 0 = .ok (.aload_n 0, 1) := by decide +kernel
theorem dX8_strips_1 : decode cX8_strips 1 = .ok (.iconst 0, 1) := by decide +kernel
theorem dX8_strips_2 : decode cX8_strips 2 = .ok (.invokevirtual 133, 3) := by decide +kernel
theorem dX8_strips_5 : decode cX8_strips 5 = .ok (.pop, 1) := by decide +kernel
theorem dX8_strips_6 : decode cX8_strips 6 = .ok (.aload_n 0, 1) := by decide +kernel
theorem dX8_strips_7 : decode cX8_strips 7 = .ok (.invokevirtual 151, 3) := by decide +kernel
theorem dX8_strips_10 : decode cX8_strips 10 = .ok (.ireturn, 1) := by decide +kernel
set_option maxRecDepth 20000 in
theorem ggX8_pass_X8_in : GoodIn wsX8_pass wsX8_in := goodIn_r _ [6] (by decide +kernel) (by decide +kernel)
set_option maxRecDepth 20000 in
theorem gX8_pass_X8_in : GoodIn wsX8_pass (wsV RX8 125 RX8 yX8_in wsX8_in) := goodIn_app (goodIn_of _ (by decide +kernel)) ggX8_pass_X8_in
set_option maxRecDepth 20000 in
theorem ggX8_pass_X8_holds : GoodIn wsX8_pass wsX8_holds := goodIn_r _ [10, 11, 12, 13, 14, 15, 16, 17, 18, 19, 20, 21, 22, 23, 24, 25, 26, 27, 28, 29, 30, 31, 32, 33, 34, 35, 36, 37, 38, 39, 40, 41, 42] (by decide +kernel) (by decide +kernel)
set_option maxRecDepth 20000 in
theorem gX8_pass_X8_holds : GoodIn wsX8_pass (wsV RX8 133 RX8 yX8_holds wsX8_holds) := goodIn_app (goodIn_of _ (by decide +kernel)) ggX8_pass_X8_holds
theorem dX8_pass_0 : decode cX8_pass 0 = .ok (.aload_n 0, 1) := by decide +kernel
theorem dX8_pass_1 : decode cX8_pass 1 = .ok (.aload_n 0, 1) := by decide +kernel
theorem dX8_pass_2 : decode cX8_pass 2 = .ok (.iload_n 1, 1) := by decide +kernel
theorem dX8_pass_3 : decode cX8_pass 3 = .ok (.iconst 1, 1) := by decide +kernel
theorem dX8_pass_4 : decode cX8_pass 4 = .ok (.bipush 100, 2) := by decide +kernel
theorem dX8_pass_6 : decode cX8_pass 6 = .ok (.invokevirtual 125, 3) := by decide +kernel
theorem dX8_pass_9 : decode cX8_pass 9 = .ok (.ifCond .eq 7, 3) := by decide +kernel
theorem dX8_pass_12 : decode cX8_pass 12 = .ok (.iconst 0, 1) := by decide +kernel
theorem dX8_pass_13 : decode cX8_pass 13 = .ok (.goto 4, 3) := by decide +kernel
theorem dX8_pass_16 : decode cX8_pass 16 = .ok (.iconst 1, 1) := by decide +kernel
theorem dX8_pass_17 : decode cX8_pass 17 = .ok (.invokevirtual 133, 3) := by decide +kernel
theorem dX8_pass_20 : decode cX8_pass 20 = .ok (.ifCond .eq 5, 3) := by decide +kernel
theorem dX8_pass_23 : decode cX8_pass 23 = .ok (.iconst (-1), 1) := by decide +kernel
theorem dX8_pass_24 : decode cX8_pass 24 = .ok (.ireturn, 1) := by decide +kernel
theorem dX8_pass_25 : decode cX8_pass 25 = .ok (.aload_n 0, 1) := by decide +kernel
theorem dX8_pass_26 : decode cX8_pass 26 = .ok (.dup, 1) := by decide +kernel
theorem dX8_pass_27 : decode cX8_pass 27 = .ok (.getfield 148, 3) := by decide +kernel
theorem dX8_pass_30 : decode cX8_pass 30 = .ok (.iload_n 1, 1) := by decide +kernel
theorem dX8_pass_31 : decode cX8_pass 31 = .ok (.iadd, 1) := by decide +kernel
theorem dX8_pass_32 : decode cX8_pass 32 = .ok (.putfield 148, 3) := by decide +kernel
theorem dX8_pass_35 : decode cX8_pass 35 = .ok (.aload_n 0, 1) := by decide +kernel
theorem dX8_pass_36 : decode cX8_pass 36 = .ok (.getfield 148, 3) := by decide +kernel
theorem dX8_pass_39 : decode cX8_pass 39 = .ok (.ireturn, 1) := by decide +kernel
theorem dJ9_max_7cf53_0 : decode cJ9_max_7cf53 0 = .ok (.iload_n 0, 1) := by decide +kernel
theorem dJ9_max_7cf53_1 : decode cJ9_max_7cf53 1 = .ok (.iload_n 1, 1) := by decide +kernel
theorem dJ9_max_7cf53_2 : decode cJ9_max_7cf53 2 = .ok (.if_icmp .lt 7, 3) := by decide +kernel
theorem dJ9_max_7cf53_5 : decode cJ9_max_7cf53 5 = .ok (.iload_n 0, 1) := by decide +kernel
theorem dJ9_max_7cf53_6 : decode cJ9_max_7cf53 6 = .ok (.goto 4, 3) := by decide +kernel
theorem dJ9_max_7cf53_9 : decode cJ9_max_7cf53 9 = .ok (.iload_n 1, 1) := by decide +kernel
theorem dJ9_max_7cf53_10 : decode cJ9_max_7cf53 10 = .ok (.ireturn, 1) := by decide +kernel
theorem dJ9_min_7cf53_0 : decode cJ9_min_7cf53 0 = .ok (.iload_n 0, 1) := by decide +kernel
theorem dJ9_min_7cf53_1 : decode cJ9_min_7cf53 1 = .ok (.iload_n 1, 1) := by decide +kernel
theorem dJ9_min_7cf53_2 : decode cJ9_min_7cf53 2 = .ok (.if_icmp .gt 7, 3) := by decide +kernel
theorem dJ9_min_7cf53_5 : decode cJ9_min_7cf53 5 = .ok (.iload_n 0, 1) := by decide +kernel
theorem dJ9_min_7cf53_6 : decode cJ9_min_7cf53 6 = .ok (.goto 4, 3) := by decide +kernel
theorem dJ9_min_7cf53_9 : decode cJ9_min_7cf53 9 = .ok (.iload_n 1, 1) := by decide +kernel
theorem dJ9_min_7cf53_10 : decode cJ9_min_7cf53 10 = .ok (.ireturn, 1) := by decide +kernel
theorem dJ7_fill_53178_0 : decode cJ7_fill_53178 0 = .ok (.iconst 0, 1) := by decide +kernel
theorem dJ7_fill_53178_1 : decode cJ7_fill_53178 1 = .ok (.istore_n 2, 1) := by decide +kernel
theorem dJ7_fill_53178_2 : decode cJ7_fill_53178 2 = .ok (.aload_n 0, 1) := by decide +kernel
theorem dJ7_fill_53178_3 : decode cJ7_fill_53178 3 = .ok (.arraylength, 1) := by decide +kernel
theorem dJ7_fill_53178_4 : decode cJ7_fill_53178 4 = .ok (.istore_n 3, 1) := by decide +kernel
theorem dJ7_fill_53178_5 : decode cJ7_fill_53178 5 = .ok (.iload_n 2, 1) := by decide +kernel
theorem dJ7_fill_53178_6 : decode cJ7_fill_53178 6 = .ok (.iload_n 3, 1) := by decide +kernel
theorem dJ7_fill_53178_7 : decode cJ7_fill_53178 7 = .ok (.if_icmp .ge 13, 3) := by decide +kernel
theorem dJ7_fill_53178_10 : decode cJ7_fill_53178 10 = .ok (.aload_n 0, 1) := by decide +kernel
theorem dJ7_fill_53178_11 : decode cJ7_fill_53178 11 = .ok (.iload_n 2, 1) := by decide +kernel
theorem dJ7_fill_53178_12 : decode cJ7_fill_53178 12 = .ok (.iload_n 1, 1) := by decide +kernel
theorem dJ7_fill_53178_13 : decode cJ7_fill_53178 13 = .ok (.iastore, 1) := by decide +kernel
theorem dJ7_fill_53178_14 : decode cJ7_fill_53178 14 = .ok (.iinc 2 1, 3) := by decide +kernel
theorem dJ7_fill_53178_17 : decode cJ7_fill_53178 17 = .ok (.goto (-12), 3) := by decide +kernel
theorem dJ7_fill_53178_20 : decode cJ7_fill_53178 20 = .ok (.return_, 1) := by decide +kernel
