def y_X1_branch : MethodName := ⟨"TypesAtPrime$Grower", "branch", "(I[III)V"⟩
abbrev i_X1_branch : tp_I := (prog_3_method_3_code, "TypesAtPrime$Grower", none, 9, "branch")
abbrev o_X1_branch : tp_M → tp_O := fun r => (none, tp_NC, tp_st r)
theorem d_X1_branch_0 : decode prog_3_method_3_code 0 = .ok (.iload_n 1, 1) := by decide +kernel
theorem d_X1_branch_1 : decode prog_3_method_3_code 1 = .ok (.ifCond .lt 18, 3) := by decide +kernel
theorem d_X1_branch_4 : decode prog_3_method_3_code 4 = .ok (.iload_n 1, 1) := by decide +kernel
theorem d_X1_branch_5 : decode prog_3_method_3_code 5 = .ok (.bipush 6, 2) := by decide +kernel
theorem d_X1_branch_7 : decode prog_3_method_3_code 7 = .ok (.if_icmp .gt 12, 3) := by decide +kernel
theorem d_X1_branch_10 : decode prog_3_method_3_code 10 = .ok (.aload_n 0, 1) := by decide +kernel
theorem d_X1_branch_11 : decode prog_3_method_3_code 11 = .ok (.getfield 20, 3) := by decide +kernel
theorem d_X1_branch_14 : decode prog_3_method_3_code 14 = .ok (.iload_n 1, 1) := by decide +kernel
theorem d_X1_branch_15 : decode prog_3_method_3_code 15 = .ok (.aaload, 1) := by decide +kernel
theorem d_X1_branch_16 : decode prog_3_method_3_code 16 = .ok (.goto 4, 3) := by decide +kernel
theorem d_X1_branch_19 : decode prog_3_method_3_code 19 = .ok (.aconst_null, 1) := by decide +kernel
theorem d_X1_branch_20 : decode prog_3_method_3_code 20 = .ok (.astore 5, 2) := by decide +kernel
theorem d_X1_branch_22 : decode prog_3_method_3_code 22 = .ok (.aload 5, 2) := by decide +kernel
theorem d_X1_branch_24 : decode prog_3_method_3_code 24 = .ok (.ifnull 19, 3) := by decide +kernel
theorem d_X1_branch_27 : decode prog_3_method_3_code 27 = .ok (.aload 5, 2) := by decide +kernel
theorem d_X1_branch_29 : decode prog_3_method_3_code 29 = .ok (.aload_n 2, 1) := by decide +kernel
theorem d_X1_branch_30 : decode prog_3_method_3_code 30 = .ok (.aload_n 0, 1) := by decide +kernel
theorem d_X1_branch_31 : decode prog_3_method_3_code 31 = .ok (.getfield 53, 3) := by decide +kernel
theorem d_X1_branch_34 : decode prog_3_method_3_code 34 = .ok (.getfield 88, 3) := by decide +kernel
theorem d_X1_branch_37 : decode prog_3_method_3_code 37 = .ok (.invokevirtual 91, 3) := by decide +kernel
theorem d_X1_branch_40 : decode prog_3_method_3_code 40 = .ok (.ifCond .ne 4, 3) := by decide +kernel
theorem d_X1_branch_43 : decode prog_3_method_3_code 43 = .ok (.return_, 1) := by decide +kernel
theorem d_X1_branch_44 : decode prog_3_method_3_code 44 = .ok (.iconst 0, 1) := by decide +kernel
theorem d_X1_branch_45 : decode prog_3_method_3_code 45 = .ok (.istore 6, 2) := by decide +kernel
theorem d_X1_branch_47 : decode prog_3_method_3_code 47 = .ok (.iload 6, 2) := by decide +kernel
theorem d_X1_branch_49 : decode prog_3_method_3_code 49 = .ok (.aload 5, 2) := by decide +kernel
theorem d_X1_branch_51 : decode prog_3_method_3_code 51 = .ok (.getfield 95, 3) := by decide +kernel
theorem d_X1_branch_54 : decode prog_3_method_3_code 54 = .ok (.if_icmp .ge 164, 3) := by decide +kernel
theorem d_X1_branch_57 : decode prog_3_method_3_code 57 = .ok (.iload 6, 2) := by decide +kernel
theorem d_X1_branch_59 : decode prog_3_method_3_code 59 = .ok (.bipush 9, 2) := by decide +kernel
theorem d_X1_branch_61 : decode prog_3_method_3_code 61 = .ok (.if_icmp .ge 157, 3) := by decide +kernel
theorem d_X1_branch_64 : decode prog_3_method_3_code 64 = .ok (.aload 5, 2) := by decide +kernel
theorem d_X1_branch_66 : decode prog_3_method_3_code 66 = .ok (.getfield 98, 3) := by decide +kernel
theorem d_X1_branch_69 : decode prog_3_method_3_code 69 = .ok (.iload 6, 2) := by decide +kernel
theorem d_X1_branch_71 : decode prog_3_method_3_code 71 = .ok (.iaload, 1) := by decide +kernel
theorem d_X1_branch_72 : decode prog_3_method_3_code 72 = .ok (.istore 7, 2) := by decide +kernel
theorem d_X1_branch_74 : decode prog_3_method_3_code 74 = .ok (.aload 5, 2) := by decide +kernel
theorem d_X1_branch_76 : decode prog_3_method_3_code 76 = .ok (.getfield 101, 3) := by decide +kernel
theorem d_X1_branch_79 : decode prog_3_method_3_code 79 = .ok (.iload 6, 2) := by decide +kernel
theorem d_X1_branch_81 : decode prog_3_method_3_code 81 = .ok (.iaload, 1) := by decide +kernel
theorem d_X1_branch_82 : decode prog_3_method_3_code 82 = .ok (.istore 8, 2) := by decide +kernel
theorem d_X1_branch_84 : decode prog_3_method_3_code 84 = .ok (.iload 8, 2) := by decide +kernel
theorem d_X1_branch_86 : decode prog_3_method_3_code 86 = .ok (.iconst 1, 1) := by decide +kernel
theorem d_X1_branch_87 : decode prog_3_method_3_code 87 = .ok (.if_icmp .ne 23, 3) := by decide +kernel
theorem d_X1_branch_90 : decode prog_3_method_3_code 90 = .ok (.aload_n 0, 1) := by decide +kernel
theorem d_X1_branch_91 : decode prog_3_method_3_code 91 = .ok (.getfield 57, 3) := by decide +kernel
theorem d_X1_branch_94 : decode prog_3_method_3_code 94 = .ok (.iconst 0, 1) := by decide +kernel
theorem d_X1_branch_95 : decode prog_3_method_3_code 95 = .ok (.iload_n 3, 1) := by decide +kernel
theorem d_X1_branch_96 : decode prog_3_method_3_code 96 = .ok (.iload 7, 2) := by decide +kernel
theorem d_X1_branch_98 : decode prog_3_method_3_code 98 = .ok (.iload_n 3, 1) := by decide +kernel
theorem d_X1_branch_99 : decode prog_3_method_3_code 99 = .ok (.iload 7, 2) := by decide +kernel
theorem d_X1_branch_101 : decode prog_3_method_3_code 101 = .ok (.imul, 1) := by decide +kernel
theorem d_X1_branch_102 : decode prog_3_method_3_code 102 = .ok (.iload 4, 2) := by decide +kernel
theorem d_X1_branch_104 : decode prog_3_method_3_code 104 = .ok (.invokevirtual 104, 3) := by decide +kernel
theorem d_X1_branch_107 : decode prog_3_method_3_code 107 = .ok (.goto 105, 3) := by decide +kernel
theorem d_X1_branch_110 : decode prog_3_method_3_code 110 = .ok (.iload 7, 2) := by decide +kernel
theorem d_X1_branch_112 : decode prog_3_method_3_code 112 = .ok (.iconst 1, 1) := by decide +kernel
theorem d_X1_branch_113 : decode prog_3_method_3_code 113 = .ok (.if_icmp .le 25, 3) := by decide +kernel
theorem d_X1_branch_116 : decode prog_3_method_3_code 116 = .ok (.aload_n 0, 1) := by decide +kernel
theorem d_X1_branch_117 : decode prog_3_method_3_code 117 = .ok (.getfield 57, 3) := by decide +kernel
theorem d_X1_branch_120 : decode prog_3_method_3_code 120 = .ok (.iconst 2, 1) := by decide +kernel
theorem d_X1_branch_121 : decode prog_3_method_3_code 121 = .ok (.iconst 0, 1) := by decide +kernel
theorem d_X1_branch_122 : decode prog_3_method_3_code 122 = .ok (.iconst 0, 1) := by decide +kernel
theorem d_X1_branch_123 : decode prog_3_method_3_code 123 = .ok (.iload 7, 2) := by decide +kernel
theorem d_X1_branch_125 : decode prog_3_method_3_code 125 = .ok (.iload 8, 2) := by decide +kernel
theorem d_X1_branch_127 : decode prog_3_method_3_code 127 = .ok (.imul, 1) := by decide +kernel
theorem d_X1_branch_128 : decode prog_3_method_3_code 128 = .ok (.iload_n 3, 1) := by decide +kernel
theorem d_X1_branch_129 : decode prog_3_method_3_code 129 = .ok (.imul, 1) := by decide +kernel
theorem d_X1_branch_130 : decode prog_3_method_3_code 130 = .ok (.iload 4, 2) := by decide +kernel
theorem d_X1_branch_132 : decode prog_3_method_3_code 132 = .ok (.invokevirtual 104, 3) := by decide +kernel
theorem d_X1_branch_135 : decode prog_3_method_3_code 135 = .ok (.goto 77, 3) := by decide +kernel
theorem d_X1_branch_138 : decode prog_3_method_3_code 138 = .ok (.iload_n 1, 1) := by decide +kernel
theorem d_X1_branch_139 : decode prog_3_method_3_code 139 = .ok (.bipush 6, 2) := by decide +kernel
theorem d_X1_branch_141 : decode prog_3_method_3_code 141 = .ok (.if_icmp .ne 22, 3) := by decide +kernel
theorem d_X1_branch_144 : decode prog_3_method_3_code 144 = .ok (.aload_n 0, 1) := by decide +kernel
theorem d_X1_branch_145 : decode prog_3_method_3_code 145 = .ok (.getfield 57, 3) := by decide +kernel
theorem d_X1_branch_148 : decode prog_3_method_3_code 148 = .ok (.iconst 3, 1) := by decide +kernel
theorem d_X1_branch_149 : decode prog_3_method_3_code 149 = .ok (.iconst 0, 1) := by decide +kernel
theorem d_X1_branch_150 : decode prog_3_method_3_code 150 = .ok (.iconst 0, 1) := by decide +kernel
theorem d_X1_branch_151 : decode prog_3_method_3_code 151 = .ok (.iload 8, 2) := by decide +kernel
theorem d_X1_branch_153 : decode prog_3_method_3_code 153 = .ok (.iload_n 3, 1) := by decide +kernel
theorem d_X1_branch_154 : decode prog_3_method_3_code 154 = .ok (.imul, 1) := by decide +kernel
theorem d_X1_branch_155 : decode prog_3_method_3_code 155 = .ok (.iload 4, 2) := by decide +kernel
theorem d_X1_branch_157 : decode prog_3_method_3_code 157 = .ok (.invokevirtual 104, 3) := by decide +kernel
theorem d_X1_branch_160 : decode prog_3_method_3_code 160 = .ok (.goto 52, 3) := by decide +kernel
theorem d_X1_branch_163 : decode prog_3_method_3_code 163 = .ok (.aload_n 0, 1) := by decide +kernel
theorem d_X1_branch_164 : decode prog_3_method_3_code 164 = .ok (.getfield 12, 3) := by decide +kernel
theorem d_X1_branch_167 : decode prog_3_method_3_code 167 = .ok (.getfield 108, 3) := by decide +kernel
theorem d_X1_branch_170 : decode prog_3_method_3_code 170 = .ok (.iload_n 1, 1) := by decide +kernel
theorem d_X1_branch_171 : decode prog_3_method_3_code 171 = .ok (.aload_n 0, 1) := by decide +kernel
theorem d_X1_branch_172 : decode prog_3_method_3_code 172 = .ok (.getfield 53, 3) := by decide +kernel
theorem d_X1_branch_175 : decode prog_3_method_3_code 175 = .ok (.getfield 88, 3) := by decide +kernel
theorem d_X1_branch_178 : decode prog_3_method_3_code 178 = .ok (.aload 5, 2) := by decide +kernel
theorem d_X1_branch_180 : decode prog_3_method_3_code 180 = .ok (.getfield 111, 3) := by decide +kernel
theorem d_X1_branch_183 : decode prog_3_method_3_code 183 = .ok (.iload 6, 2) := by decide +kernel
theorem d_X1_branch_185 : decode prog_3_method_3_code 185 = .ok (.aaload, 1) := by decide +kernel
theorem d_X1_branch_186 : decode prog_3_method_3_code 186 = .ok (.iconst 0, 1) := by decide +kernel
theorem d_X1_branch_187 : decode prog_3_method_3_code 187 = .ok (.iaload, 1) := by decide +kernel
theorem d_X1_branch_188 : decode prog_3_method_3_code 188 = .ok (.isub, 1) := by decide +kernel
theorem d_X1_branch_189 : decode prog_3_method_3_code 189 = .ok (.aload_n 0, 1) := by decide +kernel
theorem d_X1_branch_190 : decode prog_3_method_3_code 190 = .ok (.getfield 53, 3) := by decide +kernel
theorem d_X1_branch_193 : decode prog_3_method_3_code 193 = .ok (.getfield 88, 3) := by decide +kernel
theorem d_X1_branch_196 : decode prog_3_method_3_code 196 = .ok (.invokestatic 115, 3) := by decide +kernel
theorem d_X1_branch_199 : decode prog_3_method_3_code 199 = .ok (.iastore, 1) := by decide +kernel
theorem d_X1_branch_200 : decode prog_3_method_3_code 200 = .ok (.aload_n 0, 1) := by decide +kernel
theorem d_X1_branch_201 : decode prog_3_method_3_code 201 = .ok (.iload_n 1, 1) := by decide +kernel
theorem d_X1_branch_202 : decode prog_3_method_3_code 202 = .ok (.iconst 1, 1) := by decide +kernel
theorem d_X1_branch_203 : decode prog_3_method_3_code 203 = .ok (.iadd, 1) := by decide +kernel
theorem d_X1_branch_204 : decode prog_3_method_3_code 204 = .ok (.iload 8, 2) := by decide +kernel
theorem d_X1_branch_206 : decode prog_3_method_3_code 206 = .ok (.iload_n 3, 1) := by decide +kernel
theorem d_X1_branch_207 : decode prog_3_method_3_code 207 = .ok (.iload 4, 2) := by decide +kernel
theorem d_X1_branch_209 : decode prog_3_method_3_code 209 = .ok (.invokevirtual 119, 3) := by decide +kernel
theorem d_X1_branch_212 : decode prog_3_method_3_code 212 = .ok (.iinc 6 1, 3) := by decide +kernel
theorem d_X1_branch_215 : decode prog_3_method_3_code 215 = .ok (.goto (-168), 3) := by decide +kernel
theorem d_X1_branch_218 : decode prog_3_method_3_code 218 = .ok (.return_, 1) := by decide +kernel
def y_X1_growKnot : MethodName := ⟨"TypesAtPrime$Grower", "growKnot", "(IIII)V"⟩
abbrev i_X1_growKnot : tp_I := (prog_3_method_4_code, "TypesAtPrime$Grower", none, 9, "growKnot")
abbrev o_X1_growKnot : tp_M → tp_O := fun r => (none, tp_NC, tp_st r)
theorem d_X1_growKnot_0 : decode prog_3_method_4_code 0 = .ok (.iload_n 1, 1) := by decide +kernel
theorem d_X1_growKnot_1 : decode prog_3_method_4_code 1 = .ok (.bipush 6, 2) := by decide +kernel
theorem d_X1_growKnot_3 : decode prog_3_method_4_code 3 = .ok (.if_icmp .gt 18, 3) := by decide +kernel
theorem d_X1_growKnot_6 : decode prog_3_method_4_code 6 = .ok (.aload_n 0, 1) := by decide +kernel
theorem d_X1_growKnot_7 : decode prog_3_method_4_code 7 = .ok (.getfield 57, 3) := by decide +kernel
theorem d_X1_growKnot_10 : decode prog_3_method_4_code 10 = .ok (.iload_n 1, 1) := by decide +kernel
theorem d_X1_growKnot_11 : decode prog_3_method_4_code 11 = .ok (.iload_n 2, 1) := by decide +kernel
theorem d_X1_growKnot_12 : decode prog_3_method_4_code 12 = .ok (.iload_n 3, 1) := by decide +kernel
theorem d_X1_growKnot_13 : decode prog_3_method_4_code 13 = .ok (.iload 4, 2) := by decide +kernel
theorem d_X1_growKnot_15 : decode prog_3_method_4_code 15 = .ok (.invokevirtual 123, 3) := by decide +kernel
theorem d_X1_growKnot_18 : decode prog_3_method_4_code 18 = .ok (.goto 4, 3) := by decide +kernel
theorem d_X1_growKnot_21 : decode prog_3_method_4_code 21 = .ok (.aconst_null, 1) := by decide +kernel
theorem d_X1_growKnot_22 : decode prog_3_method_4_code 22 = .ok (.astore 5, 2) := by decide +kernel
theorem d_X1_growKnot_24 : decode prog_3_method_4_code 24 = .ok (.aload 5, 2) := by decide +kernel
theorem d_X1_growKnot_26 : decode prog_3_method_4_code 26 = .ok (.ifnonnull 4, 3) := by decide +kernel
theorem d_X1_growKnot_29 : decode prog_3_method_4_code 29 = .ok (.return_, 1) := by decide +kernel
theorem d_X1_growKnot_30 : decode prog_3_method_4_code 30 = .ok (.aload_n 0, 1) := by decide +kernel
theorem d_X1_growKnot_31 : decode prog_3_method_4_code 31 = .ok (.getfield 57, 3) := by decide +kernel
theorem d_X1_growKnot_34 : decode prog_3_method_4_code 34 = .ok (.getfield 127, 3) := by decide +kernel
theorem d_X1_growKnot_37 : decode prog_3_method_4_code 37 = .ok (.iconst 1, 1) := by decide +kernel
theorem d_X1_growKnot_38 : decode prog_3_method_4_code 38 = .ok (.isub, 1) := by decide +kernel
theorem d_X1_growKnot_39 : decode prog_3_method_4_code 39 = .ok (.istore 6, 2) := by decide +kernel
theorem d_X1_growKnot_41 : decode prog_3_method_4_code 41 = .ok (.iload_n 1, 1) := by decide +kernel
theorem d_X1_growKnot_42 : decode prog_3_method_4_code 42 = .ok (.iconst 1, 1) := by decide +kernel
theorem d_X1_growKnot_43 : decode prog_3_method_4_code 43 = .ok (.if_icmp .ne 12, 3) := by decide +kernel
theorem d_X1_growKnot_46 : decode prog_3_method_4_code 46 = .ok (.aload_n 0, 1) := by decide +kernel
theorem d_X1_growKnot_47 : decode prog_3_method_4_code 47 = .ok (.aload 5, 2) := by decide +kernel
theorem d_X1_growKnot_49 : decode prog_3_method_4_code 49 = .ok (.invokevirtual 130, 3) := by decide +kernel
theorem d_X1_growKnot_52 : decode prog_3_method_4_code 52 = .ok (.goto 9, 3) := by decide +kernel
theorem d_X1_growKnot_55 : decode prog_3_method_4_code 55 = .ok (.aload_n 0, 1) := by decide +kernel
theorem d_X1_growKnot_56 : decode prog_3_method_4_code 56 = .ok (.aload 5, 2) := by decide +kernel
theorem d_X1_growKnot_58 : decode prog_3_method_4_code 58 = .ok (.invokevirtual 134, 3) := by decide +kernel
theorem d_X1_growKnot_61 : decode prog_3_method_4_code 61 = .ok (.aload_n 0, 1) := by decide +kernel
theorem d_X1_growKnot_62 : decode prog_3_method_4_code 62 = .ok (.getfield 12, 3) := by decide +kernel
theorem d_X1_growKnot_65 : decode prog_3_method_4_code 65 = .ok (.aload 5, 2) := by decide +kernel
theorem d_X1_growKnot_67 : decode prog_3_method_4_code 67 = .ok (.invokevirtual 137, 3) := by decide +kernel
theorem d_X1_growKnot_70 : decode prog_3_method_4_code 70 = .ok (.aload_n 0, 1) := by decide +kernel
theorem d_X1_growKnot_71 : decode prog_3_method_4_code 71 = .ok (.aload 5, 2) := by decide +kernel
theorem d_X1_growKnot_73 : decode prog_3_method_4_code 73 = .ok (.invokevirtual 140, 3) := by decide +kernel
theorem d_X1_growKnot_76 : decode prog_3_method_4_code 76 = .ok (.aload_n 0, 1) := by decide +kernel
theorem d_X1_growKnot_77 : decode prog_3_method_4_code 77 = .ok (.aload 5, 2) := by decide +kernel
theorem d_X1_growKnot_79 : decode prog_3_method_4_code 79 = .ok (.invokevirtual 143, 3) := by decide +kernel
theorem d_X1_growKnot_82 : decode prog_3_method_4_code 82 = .ok (.iconst 0, 1) := by decide +kernel
theorem d_X1_growKnot_83 : decode prog_3_method_4_code 83 = .ok (.istore 7, 2) := by decide +kernel
theorem d_X1_growKnot_85 : decode prog_3_method_4_code 85 = .ok (.iload 7, 2) := by decide +kernel
theorem d_X1_growKnot_87 : decode prog_3_method_4_code 87 = .ok (.aload 5, 2) := by decide +kernel
theorem d_X1_growKnot_89 : decode prog_3_method_4_code 89 = .ok (.getfield 146, 3) := by decide +kernel
theorem d_X1_growKnot_92 : decode prog_3_method_4_code 92 = .ok (.if_icmp .ge 26, 3) := by decide +kernel
theorem d_X1_growKnot_95 : decode prog_3_method_4_code 95 = .ok (.aload_n 0, 1) := by decide +kernel
theorem d_X1_growKnot_96 : decode prog_3_method_4_code 96 = .ok (.aload 5, 2) := by decide +kernel
theorem d_X1_growKnot_98 : decode prog_3_method_4_code 98 = .ok (.aload_n 0, 1) := by decide +kernel
theorem d_X1_growKnot_99 : decode prog_3_method_4_code 99 = .ok (.getfield 57, 3) := by decide +kernel
theorem d_X1_growKnot_102 : decode prog_3_method_4_code 102 = .ok (.iload 6, 2) := by decide +kernel
theorem d_X1_growKnot_104 : decode prog_3_method_4_code 104 = .ok (.iload 7, 2) := by decide +kernel
theorem d_X1_growKnot_106 : decode prog_3_method_4_code 106 = .ok (.invokevirtual 151, 3) := by decide +kernel
theorem d_X1_growKnot_109 : decode prog_3_method_4_code 109 = .ok (.invokevirtual 155, 3) := by decide +kernel
theorem d_X1_growKnot_112 : decode prog_3_method_4_code 112 = .ok (.iinc 7 1, 3) := by decide +kernel
theorem d_X1_growKnot_115 : decode prog_3_method_4_code 115 = .ok (.goto (-30), 3) := by decide +kernel
theorem d_X1_growKnot_118 : decode prog_3_method_4_code 118 = .ok (.aload 5, 2) := by decide +kernel
theorem d_X1_growKnot_120 : decode prog_3_method_4_code 120 = .ok (.getfield 159, 3) := by decide +kernel
theorem d_X1_growKnot_123 : decode prog_3_method_4_code 123 = .ok (.iconst 2, 1) := by decide +kernel
theorem d_X1_growKnot_124 : decode prog_3_method_4_code 124 = .ok (.if_icmp .lt 22, 3) := by decide +kernel
theorem d_X1_growKnot_127 : decode prog_3_method_4_code 127 = .ok (.aload_n 0, 1) := by decide +kernel
theorem d_X1_growKnot_128 : decode prog_3_method_4_code 128 = .ok (.getfield 57, 3) := by decide +kernel
theorem d_X1_growKnot_131 : decode prog_3_method_4_code 131 = .ok (.iconst 4, 1) := by decide +kernel
theorem d_X1_growKnot_132 : decode prog_3_method_4_code 132 = .ok (.iconst 0, 1) := by decide +kernel
theorem d_X1_growKnot_133 : decode prog_3_method_4_code 133 = .ok (.iconst 0, 1) := by decide +kernel
theorem d_X1_growKnot_134 : decode prog_3_method_4_code 134 = .ok (.aload 5, 2) := by decide +kernel
theorem d_X1_growKnot_136 : decode prog_3_method_4_code 136 = .ok (.getfield 159, 3) := by decide +kernel
theorem d_X1_growKnot_139 : decode prog_3_method_4_code 139 = .ok (.iload_n 3, 1) := by decide +kernel
theorem d_X1_growKnot_140 : decode prog_3_method_4_code 140 = .ok (.imul, 1) := by decide +kernel
theorem d_X1_growKnot_141 : decode prog_3_method_4_code 141 = .ok (.iload 6, 2) := by decide +kernel
theorem d_X1_growKnot_143 : decode prog_3_method_4_code 143 = .ok (.invokevirtual 104, 3) := by decide +kernel
theorem d_X1_growKnot_146 : decode prog_3_method_4_code 146 = .ok (.aload 5, 2) := by decide +kernel
theorem d_X1_growKnot_148 : decode prog_3_method_4_code 148 = .ok (.getfield 159, 3) := by decide +kernel
theorem d_X1_growKnot_151 : decode prog_3_method_4_code 151 = .ok (.iconst 1, 1) := by decide +kernel
theorem d_X1_growKnot_152 : decode prog_3_method_4_code 152 = .ok (.if_icmp .ne 16, 3) := by decide +kernel
theorem d_X1_growKnot_155 : decode prog_3_method_4_code 155 = .ok (.aload_n 0, 1) := by decide +kernel
theorem d_X1_growKnot_156 : decode prog_3_method_4_code 156 = .ok (.getfield 57, 3) := by decide +kernel
theorem d_X1_growKnot_159 : decode prog_3_method_4_code 159 = .ok (.iconst 1, 1) := by decide +kernel
theorem d_X1_growKnot_160 : decode prog_3_method_4_code 160 = .ok (.iload_n 3, 1) := by decide +kernel
theorem d_X1_growKnot_161 : decode prog_3_method_4_code 161 = .ok (.iconst 1, 1) := by decide +kernel
theorem d_X1_growKnot_162 : decode prog_3_method_4_code 162 = .ok (.iload_n 3, 1) := by decide +kernel
theorem d_X1_growKnot_163 : decode prog_3_method_4_code 163 = .ok (.iload 6, 2) := by decide +kernel
theorem d_X1_growKnot_165 : decode prog_3_method_4_code 165 = .ok (.invokevirtual 104, 3) := by decide +kernel
theorem d_X1_growKnot_168 : decode prog_3_method_4_code 168 = .ok (.iconst 0, 1) := by decide +kernel
theorem d_X1_growKnot_169 : decode prog_3_method_4_code 169 = .ok (.istore 7, 2) := by decide +kernel
theorem d_X1_growKnot_171 : decode prog_3_method_4_code 171 = .ok (.iload 7, 2) := by decide +kernel
theorem d_X1_growKnot_173 : decode prog_3_method_4_code 173 = .ok (.aload 5, 2) := by decide +kernel
theorem d_X1_growKnot_175 : decode prog_3_method_4_code 175 = .ok (.getfield 146, 3) := by decide +kernel
theorem d_X1_growKnot_178 : decode prog_3_method_4_code 178 = .ok (.if_icmp .ge 59, 3) := by decide +kernel
theorem d_X1_growKnot_181 : decode prog_3_method_4_code 181 = .ok (.aload_n 0, 1) := by decide +kernel
theorem d_X1_growKnot_182 : decode prog_3_method_4_code 182 = .ok (.getfield 57, 3) := by decide +kernel
theorem d_X1_growKnot_185 : decode prog_3_method_4_code 185 = .ok (.iload 6, 2) := by decide +kernel
theorem d_X1_growKnot_187 : decode prog_3_method_4_code 187 = .ok (.iload 7, 2) := by decide +kernel
theorem d_X1_growKnot_189 : decode prog_3_method_4_code 189 = .ok (.invokevirtual 151, 3) := by decide +kernel
theorem d_X1_growKnot_192 : decode prog_3_method_4_code 192 = .ok (.astore 8, 2) := by decide +kernel
theorem d_X1_growKnot_194 : decode prog_3_method_4_code 194 = .ok (.aload 8, 2) := by decide +kernel
theorem d_X1_growKnot_196 : decode prog_3_method_4_code 196 = .ok (.ifnonnull 6, 3) := by decide +kernel
theorem d_X1_growKnot_199 : decode prog_3_method_4_code 199 = .ok (.goto 32, 3) := by decide +kernel
theorem d_X1_growKnot_202 : decode prog_3_method_4_code 202 = .ok (.aload_n 0, 1) := by decide +kernel
theorem d_X1_growKnot_203 : decode prog_3_method_4_code 203 = .ok (.getfield 12, 3) := by decide +kernel
theorem d_X1_growKnot_206 : decode prog_3_method_4_code 206 = .ok (.iload_n 1, 1) := by decide +kernel
theorem d_X1_growKnot_207 : decode prog_3_method_4_code 207 = .ok (.aload 8, 2) := by decide +kernel
theorem d_X1_growKnot_209 : decode prog_3_method_4_code 209 = .ok (.invokevirtual 162, 3) := by decide +kernel
theorem d_X1_growKnot_212 : decode prog_3_method_4_code 212 = .ok (.aload_n 0, 1) := by decide +kernel
theorem d_X1_growKnot_213 : decode prog_3_method_4_code 213 = .ok (.iload_n 1, 1) := by decide +kernel
theorem d_X1_growKnot_214 : decode prog_3_method_4_code 214 = .ok (.aload 8, 2) := by decide +kernel
theorem d_X1_growKnot_216 : decode prog_3_method_4_code 216 = .ok (.getfield 166, 3) := by decide +kernel
theorem d_X1_growKnot_219 : decode prog_3_method_4_code 219 = .ok (.iload_n 3, 1) := by decide +kernel
theorem d_X1_growKnot_220 : decode prog_3_method_4_code 220 = .ok (.aload 8, 2) := by decide +kernel
theorem d_X1_growKnot_222 : decode prog_3_method_4_code 222 = .ok (.getfield 171, 3) := by decide +kernel
theorem d_X1_growKnot_225 : decode prog_3_method_4_code 225 = .ok (.imul, 1) := by decide +kernel
theorem d_X1_growKnot_226 : decode prog_3_method_4_code 226 = .ok (.iload 6, 2) := by decide +kernel
theorem d_X1_growKnot_228 : decode prog_3_method_4_code 228 = .ok (.invokevirtual 73, 3) := by decide +kernel
theorem d_X1_growKnot_231 : decode prog_3_method_4_code 231 = .ok (.iinc 7 1, 3) := by decide +kernel
theorem d_X1_growKnot_234 : decode prog_3_method_4_code 234 = .ok (.goto (-63), 3) := by decide +kernel
theorem d_X1_growKnot_237 : decode prog_3_method_4_code 237 = .ok (.return_, 1) := by decide +kernel
theorem cs_Grower_91 : tp_CS "TypesAtPrime$Grower" 91 y_X0_find i_X0_find 2 := ⟨wd_577, wd_5, by decide, by decide, by decide +kernel⟩
theorem wd_646 : (.methodLink "TypesAtPrime$Grower" 91 ⟨"TypesAtPrime$Factors", "find", "([II)Z"⟩ : Cond) ∈ lw_tbl := List.mem_append_right _ (List.mem_of_getElem? (i := 646) (by decide +kernel))
theorem wd_100 : (.fieldLink "TypesAtPrime$Grower" 95 "TypesAtPrime$Factors" "count" "I" : Cond) ∈ lw_tbl := List.mem_append_right _ (List.mem_of_getElem? (i := 100) (by decide +kernel))
theorem fl_Grower_95 : tp_F "TypesAtPrime$Grower" 95 0 0 0 := ⟨_, _, _, rfl, by decide, rfl, wd_100, rfl, by decide⟩
theorem wd_103 : (.fieldLink "TypesAtPrime$Grower" 98 "TypesAtPrime$Factors" "degrees" "[I" : Cond) ∈ lw_tbl := List.mem_append_right _ (List.mem_of_getElem? (i := 103) (by decide +kernel))
theorem fl_Grower_98 : tp_F "TypesAtPrime$Grower" 98 0 1 2 := ⟨_, _, _, rfl, by decide, rfl, wd_103, rfl, by decide⟩
theorem wd_106 : (.fieldLink "TypesAtPrime$Grower" 101 "TypesAtPrime$Factors" "times" "[I" : Cond) ∈ lw_tbl := List.mem_append_right _ (List.mem_of_getElem? (i := 106) (by decide +kernel))
theorem fl_Grower_101 : tp_F "TypesAtPrime$Grower" 101 0 2 2 := ⟨_, _, _, rfl, by decide, rfl, wd_106, rfl, by decide⟩
theorem wd_109 : (.fieldLink "TypesAtPrime$Grower" 111 "TypesAtPrime$Factors" "rows" "[[I" : Cond) ∈ lw_tbl := List.mem_append_right _ (List.mem_of_getElem? (i := 109) (by decide +kernel))
theorem fl_Grower_111 : tp_F "TypesAtPrime$Grower" 111 0 3 2 := ⟨_, _, _, rfl, by decide, rfl, wd_109, rfl, by decide⟩
theorem wd_659 : (.code ⟨"TypesAtPrime$Grower", "growKnot", "(IIII)V"⟩ prog_3_method_4_code 9 (none : Option Jvm.ClassFile.FieldType) : Cond) ∈ lw_tbl := List.mem_append_right _ (List.mem_of_getElem? (i := 659) (by decide +kernel))
theorem cs_Grower_119 : tp_CS "TypesAtPrime$Grower" 119 y_X1_growKnot i_X1_growKnot 4 := ⟨wd_659, wd_10, by decide, by decide, by decide +kernel⟩
theorem wd_656 : (.methodLink "TypesAtPrime$Grower" 119 ⟨"TypesAtPrime$Grower", "growKnot", "(IIII)V"⟩ : Cond) ∈ lw_tbl := List.mem_append_right _ (List.mem_of_getElem? (i := 656) (by decide +kernel))
theorem wd_658 : (.instanceMethod ⟨"TypesAtPrime$Grower", "growKnot", "(IIII)V"⟩ : Cond) ∈ lw_tbl := List.mem_append_right _ (List.mem_of_getElem? (i := 658) (by decide +kernel))
theorem ws_18 : (.selects "TypesAtPrime$Grower" ⟨"TypesAtPrime$Grower", "growKnot", "(IIII)V"⟩ ⟨"TypesAtPrime$Grower", "growKnot", "(IIII)V"⟩ : Cond) ∈ lw_tbl := List.mem_append_left _ (List.mem_of_getElem? (i := 18) (by decide +kernel))
theorem wd_650 : (.code ⟨"TypesAtPrime$Tree", "addLeaf", "(IIIII)V"⟩ prog_11_method_8_code 7 (none : Option Jvm.ClassFile.FieldType) : Cond) ∈ lw_tbl := List.mem_append_right _ (List.mem_of_getElem? (i := 650) (by decide +kernel))
theorem cs_Grower_104 : tp_CS "TypesAtPrime$Grower" 104 y_X9_addLeaf i_X9_addLeaf 5 := ⟨wd_650, wd_6, by decide, by decide, by decide +kernel⟩
theorem wd_647 : (.methodLink "TypesAtPrime$Grower" 104 ⟨"TypesAtPrime$Tree", "addLeaf", "(IIIII)V"⟩ : Cond) ∈ lw_tbl := List.mem_append_right _ (List.mem_of_getElem? (i := 647) (by decide +kernel))
theorem wd_648 : (.instanceMethod ⟨"TypesAtPrime$Tree", "addLeaf", "(IIIII)V"⟩ : Cond) ∈ lw_tbl := List.mem_append_right _ (List.mem_of_getElem? (i := 648) (by decide +kernel))
theorem wd_649 : (.selects "TypesAtPrime$Tree" ⟨"TypesAtPrime$Tree", "addLeaf", "(IIIII)V"⟩ ⟨"TypesAtPrime$Tree", "addLeaf", "(IIIII)V"⟩ : Cond) ∈ lw_tbl := List.mem_append_right _ (List.mem_of_getElem? (i := 649) (by decide +kernel))
theorem wd_372 : (.fieldLink "TypesAtPrime$Grower" 20 "TypesAtPrime$Grower" "factors" "[LTypesAtPrime$Factors;" : Cond) ∈ lw_tbl := List.mem_append_right _ (List.mem_of_getElem? (i := 372) (by decide +kernel))
theorem fl_Grower_20 : tp_F "TypesAtPrime$Grower" 20 1 3 2 := ⟨_, _, _, rfl, by decide, rfl, wd_372, rfl, by decide⟩
theorem tg_302 : tp_tg 302 = 25 := by decide +kernel
theorem al_302 : tp_al 302 = 8 := by decide +kernel
theorem rv_278_3 : tp_rv 278 3 = 302 := by decide +kernel
theorem aa_302 : ∀ i : Int, 0 ≤ i → i < 8 → tp_rv 302 i.toNat = (312 + 21 * i) ∧ tp_tg (312 + 21 * i) = 0 ∧ tp_al (312 + 21 * i) = 13 := by
  intro i h0 h1
  have h : (List.range 8).all (fun j => decide (tp_rv 302 j = (312 + 21 * (j : Int)) ∧ tp_tg (312 + 21 * (j : Int)) = 0 ∧ tp_al (312 + 21 * (j : Int)) = 13)) = true := by decide +kernel
  have h3 := of_decide_eq_true (List.all_eq_true.mp h i.toNat (List.mem_range.mpr (by omega)))
  have h4 : ((i.toNat : Nat) : Int) = i := by omega
  rw [h4] at h3
  exact h3
def fo_X1_branch_212 (gk : Int → Int → Int → Int → tp_M → Option tp_M) (rec_47 : Int → tp_M → Option (tp_M)) (x1 : Int) (x3 : Int) (x4 : Int) (x5 : Int) (x6 : Int) (M0 : tp_M) : Option (tp_M) :=
  tp_lt (tp_w (x6 + 1)) fun y21 =>
  rec_47 y21 M0
set_option maxHeartbeats 4000000 in
set_option maxRecDepth 100000 in
theorem To_X1_branch_212 (G : tp_G) (gk : Int → Int → Int → Int → tp_M → Option tp_M) (d : Nat) (hgk : ∀ (a0 a1 a2 a3 : Int) (M r : tp_M), gk a0 a1 a2 a3 M = some r → ∀ l, Met l y_X1_growKnot (tp_ws y_X1_growKnot i_X1_growKnot) (tp_rm d) (tp_Pc G [.inr (.inr 278), .inl a0, .inl a1, .inl a2, .inl a3] tp_NC (tp_st M)) (tp_Q G (o_X1_growKnot r)) 0 0 (tp_A G)) (rec_47 : Int → tp_M → Option (tp_M)) (x1 : Int) (x3 : Int) (x4 : Int) (x5 : Int) (x6 : Int) (M0 : tp_M) (hrec_47 : ∀ (x6' : Int) (M' : tp_M), tp_J i_X1_branch (tp_rm (d + 8)) G 0 0 o_X1_branch tp_NC (tp_st M') 0 0 [some (.inr (.inr 278)), some (.inl x1), none, some (.inl x3), some (.inl x4), some (.inr (.inr x5)), some (.inl (x6')), none, none] 47 [] (rec_47 x6' M')) (hg_x5 : tp_tg x5 = 0) : tp_J i_X1_branch (tp_rm (d + 8)) G 0 0 o_X1_branch tp_NC (tp_st M0) 0 0 [some (.inr (.inr 278)), some (.inl x1), none, some (.inl x3), some (.inl x4), some (.inr (.inr x5)), some (.inl x6), none, none] 212 [] (fo_X1_branch_212 gk rec_47 x1 x3 x4 x5 x6 M0) := by
  unfold fo_X1_branch_212
  refine j_iincN (lv' := fun y21 => [some (.inr (.inr 278)), some (.inl x1), none, some (.inl x3), some (.inl x4), some (.inr (.inr x5)), some (.inl y21), none, none]) d_X1_branch_212 rfl (Nat.le_of_ble_eq_true rfl) (fun _ => rfl) (fun y21 hy21 => ?_)
  refine j_goto (tgt := 47) d_X1_branch_215 (by decide) ?_
  exact j_wk [true, true, false, true, true, true, true, false, false] rfl rfl (hrec_47 y21 M0)
def fo_X1_branch_47B (gk : Int → Int → Int → Int → tp_M → Option tp_M) (x1 : Int) (x3 : Int) (x4 : Int) (x5 : Int) (rec_47 : Int → tp_M → Option (tp_M)) (x6 : Int) (M0 : tp_M) : Option (tp_M) :=
  if (M0 x5 0) ≤ x6 then
    some M0
  else
    if 9 ≤ x6 then
      some M0
    else
      if 0 ≤ x6 ∧ x6 < 9 then
        tp_lt ((M0 (x5 + 1) x6)) fun y10 =>
        if 0 ≤ x6 ∧ x6 < 9 then
          tp_lt ((M0 (x5 + 2) x6)) fun y11 =>
          if ¬ y11 = 1 then
            if y10 ≤ 1 then
              if ¬ x1 = 6 then
                if 0 ≤ x6 ∧ x6 < 9 then
                  if (0 : Int) ≤ 0 ∧ (0 : Int) < 9 then
                    (f_X10_remainder (tp_w ((M0 1 0) - (M0 (x5 + 4 + x6) 0))) (M0 1 0) M0).bind fun r16 =>
                    if 0 ≤ x1 ∧ x1 < 8 then
                      tp_mp (tp_up M0 283 x1 r16) fun M18 =>
                      (gk (tp_w (x1 + 1)) y11 x3 x4 M18).bind fun r19 =>
                      fo_X1_branch_212 gk rec_47 x1 x3 x4 x5 x6 r19 else none else none else none
              else
                (f_X9_addLeaf 3 0 0 (tp_w (y11 * x3)) x4 M0).bind fun r22 =>
                fo_X1_branch_212 gk rec_47 x1 x3 x4 x5 x6 r22
            else
              (f_X9_addLeaf 2 0 0 (tp_w ((tp_w (y10 * y11)) * x3)) x4 M0).bind fun r24 =>
              fo_X1_branch_212 gk rec_47 x1 x3 x4 x5 x6 r24
          else
            (f_X9_addLeaf 0 x3 y10 (tp_w (x3 * y10)) x4 M0).bind fun r26 =>
            fo_X1_branch_212 gk rec_47 x1 x3 x4 x5 x6 r26 else none else none
set_option maxHeartbeats 4000000 in
set_option maxRecDepth 100000 in
theorem To_X1_branch_47B (G : tp_G) (gk : Int → Int → Int → Int → tp_M → Option tp_M) (d : Nat) (hgk : ∀ (a0 a1 a2 a3 : Int) (M r : tp_M), gk a0 a1 a2 a3 M = some r → ∀ l, Met l y_X1_growKnot (tp_ws y_X1_growKnot i_X1_growKnot) (tp_rm d) (tp_Pc G [.inr (.inr 278), .inl a0, .inl a1, .inl a2, .inl a3] tp_NC (tp_st M)) (tp_Q G (o_X1_growKnot r)) 0 0 (tp_A G)) (x1 : Int) (x3 : Int) (x4 : Int) (x5 : Int) (hg_x5 : tp_tg x5 = 0) (rec_47 : Int → tp_M → Option (tp_M)) (hrec_47 : ∀ (x6' : Int) (M' : tp_M), tp_J i_X1_branch (tp_rm (d + 8)) G 0 0 o_X1_branch tp_NC (tp_st M') 0 0 [some (.inr (.inr 278)), some (.inl x1), none, some (.inl x3), some (.inl x4), some (.inr (.inr x5)), some (.inl (x6')), none, none] 47 [] (rec_47 x6' M')) (x6 : Int) (M0 : tp_M) : tp_J i_X1_branch (tp_rm (d + 8)) G 0 0 o_X1_branch tp_NC (tp_st M0) 0 0 [some (.inr (.inr 278)), some (.inl x1), none, some (.inl x3), some (.inl x4), some (.inr (.inr x5)), some (.inl x6), none, none] 47 [] (fo_X1_branch_47B gk x1 x3 x4 x5 rec_47 x6 M0) := by
  unfold fo_X1_branch_47B
  refine j_iload d_X1_branch_47 rfl ?_
  refine j_aload d_X1_branch_49 rfl ?_
  refine j_geti fl_Grower_95 hg_x5 d_X1_branch_51 ?_
  refine j_icmp_ge (tgt := 218) d_X1_branch_54 (by decide) (fun h8 => ?_) (fun h8 => ?_)
  · exact j_vret d_X1_branch_218 rfl rfl ⟨rfl, rfl⟩
  · refine j_iload d_X1_branch_57 rfl ?_
    refine j_bipush ⟨by decide, by decide⟩ (by decide +kernel) d_X1_branch_59 ?_
    refine j_icmp_ge (tgt := 218) d_X1_branch_61 (by decide) (fun h9 => ?_) (fun h9 => ?_)
    · exact j_vret d_X1_branch_218 rfl rfl ⟨rfl, rfl⟩
    · refine j_aload d_X1_branch_64 rfl ?_
      refine j_getr fl_Grower_98 hg_x5 (fam_0_1 _ hg_x5).1 d_X1_branch_66 ?_
      refine j_iload d_X1_branch_69 rfl ?_
      refine j_iald ((fam_0_1 _ hg_x5).2.1) ((fam_0_1 _ hg_x5).2.2) d_X1_branch_71 ?_
      refine j_nmI (fun y10 hy10 => ?_)
      refine j_istore (lv' := [some (.inr (.inr 278)), some (.inl x1), none, some (.inl x3), some (.inl x4), some (.inr (.inr x5)), some (.inl x6), some (.inl y10), none]) d_X1_branch_72 (Nat.le_of_ble_eq_true rfl) rfl ?_
      refine j_aload d_X1_branch_74 rfl ?_
      refine j_getr fl_Grower_101 hg_x5 (fam_0_2 _ hg_x5).1 d_X1_branch_76 ?_
      refine j_iload d_X1_branch_79 rfl ?_
      refine j_iald ((fam_0_2 _ hg_x5).2.1) ((fam_0_2 _ hg_x5).2.2) d_X1_branch_81 ?_
      refine j_nmI (fun y11 hy11 => ?_)
      refine j_istore (lv' := [some (.inr (.inr 278)), some (.inl x1), none, some (.inl x3), some (.inl x4), some (.inr (.inr x5)), some (.inl x6), some (.inl y10), some (.inl y11)]) d_X1_branch_82 (Nat.le_of_ble_eq_true rfl) rfl ?_
      refine j_iload d_X1_branch_84 rfl ?_
      refine j_iconst ⟨by decide, by decide⟩ d_X1_branch_86 ?_
      refine j_icmp_ne (tgt := 110) d_X1_branch_87 (by decide) (fun h12 => ?_) (fun h12 => ?_)
      · refine j_iload d_X1_branch_110 rfl ?_
        refine j_iconst ⟨by decide, by decide⟩ d_X1_branch_112 ?_
        refine j_icmp_le (tgt := 138) d_X1_branch_113 (by decide) (fun h13 => ?_) (fun h13 => ?_)
        · refine j_iload_n rfl d_X1_branch_138 rfl ?_
          refine j_bipush ⟨by decide, by decide⟩ (by decide +kernel) d_X1_branch_139 ?_
          refine j_icmp_ne (tgt := 163) d_X1_branch_141 (by decide) (fun h14 => ?_) (fun h14 => ?_)
          · refine j_aload_n rfl d_X1_branch_163 rfl ?_
            refine j_getr fl_Grower_12 tg_278 rv_278_2 d_X1_branch_164 ?_
            refine j_getr fl_Grower_108 tg_279 rv_279_3 d_X1_branch_167 ?_
            refine j_iload_n rfl d_X1_branch_170 rfl ?_
            refine j_aload_n rfl d_X1_branch_171 rfl ?_
            refine j_getr fl_Grower_53 tg_278 rv_278_0 d_X1_branch_172 ?_
            refine j_geti fl_Grower_88 tg_1 d_X1_branch_175 ?_
            refine j_aload d_X1_branch_178 rfl ?_
            refine j_getr fl_Grower_111 hg_x5 (fam_0_3 _ hg_x5).1 d_X1_branch_180 ?_
            refine j_iload d_X1_branch_183 rfl ?_
            refine j_aald (v := (x5 + 4 + x6)) (ty := (.array .int)) ((fam_0_3 _ hg_x5).2.1) (by decide) ((fam_0_3 _ hg_x5).2.2) (by decide) rfl d_X1_branch_185 (fun h1 h2 => (faa_0_3 _ hg_x5 _ h1 h2).1) (fun hi15 => ?_)
            refine j_iconst ⟨by decide, by decide⟩ d_X1_branch_186 ?_
            refine j_iald ((faa_0_3 _ hg_x5 _ hi15.1 hi15.2).2.1) ((faa_0_3 _ hg_x5 _ hi15.1 hi15.2).2.2) d_X1_branch_187 ?_
            refine j_isub d_X1_branch_188 ?_
            refine j_aload_n rfl d_X1_branch_189 rfl ?_
            refine j_getr fl_Grower_53 tg_278 rv_278_0 d_X1_branch_190 ?_
            refine j_geti fl_Grower_88 tg_1 d_X1_branch_193 ?_
            refine j_bind (fun r16 h17 => ?_)
            refine j_callSN (y := y_X10_remainder) (I' := i_X10_remainder) (avs := [.inl (tp_w ((M0 1 0) - (M0 (x5 + 4 + x6) 0))), .inl (M0 1 0)]) (st := [.inl x1, .inr (.inr 283)]) (c_X10_remainder G (tp_w ((M0 1 0) - (M0 (x5 + 4 + x6) 0))) (M0 1 0) M0 r16 h17) cs_Grower_115 (by decide +kernel : (.methodLinkNest "TypesAtPrime$Grower" 115 ⟨"TypesAtPrime", "remainder", "(II)I"⟩ "TypesAtPrime" : Cond) ∈ tp_nest) wd_619 rfl rfl (Nat.le_of_ble_eq_true rfl) ⟨rfl, rfl⟩ ⟨by show 0 + 1 ≤ d + 8; omega, by show 8 + (2 + 11) + 60 * (0) ≤ 60 * (d + 8); omega⟩ ⟨Nat.le_of_ble_eq_true rfl, Nat.le_of_ble_eq_true rfl⟩ d_X1_branch_196 ?_
            refine j_iast tg_283 al_283 d_X1_branch_199 (fun M18 hM18 => ?_)
            refine j_aload_n rfl d_X1_branch_200 rfl ?_
            refine j_iload_n rfl d_X1_branch_201 rfl ?_
            refine j_iconst ⟨by decide, by decide⟩ d_X1_branch_202 ?_
            refine j_iadd d_X1_branch_203 ?_
            refine j_iload d_X1_branch_204 rfl ?_
            refine j_iload_n rfl d_X1_branch_206 rfl ?_
            refine j_iload d_X1_branch_207 rfl ?_
            refine j_bind (fun r19 h20 => ?_)
            refine j_callV (y := y_X1_growKnot) (I' := i_X1_growKnot) (avs := [.inl (tp_w (x1 + 1)), .inl y11, .inl x3, .inl x4]) (c := 278) (st := []) (hgk (tp_w (x1 + 1)) y11 x3 x4 M18 r19 h20) cs_Grower_119 wd_656 wd_658 ws_18 tg_278 rfl rfl rfl (Nat.le_of_ble_eq_true rfl) ⟨rfl, rfl⟩ ⟨by show d + 1 ≤ d + 8; omega, by show 8 + (9 + 11) + 60 * (d) ≤ 60 * (d + 8); omega⟩ ⟨Nat.le_of_ble_eq_true rfl, Nat.le_of_ble_eq_true rfl⟩ d_X1_branch_209 ?_
            exact j_wk [true, true, false, true, true, true, true, false, false] rfl rfl (To_X1_branch_212 G gk d hgk rec_47 x1 x3 x4 x5 x6 r19 hrec_47 hg_x5)
          · refine j_aload_n rfl d_X1_branch_144 rfl ?_
            refine j_getr fl_Grower_57 tg_278 rv_278_1 d_X1_branch_145 ?_
            refine j_iconst ⟨by decide, by decide⟩ d_X1_branch_148 ?_
            refine j_iconst ⟨by decide, by decide⟩ d_X1_branch_149 ?_
            refine j_iconst ⟨by decide, by decide⟩ d_X1_branch_150 ?_
            refine j_iload d_X1_branch_151 rfl ?_
            refine j_iload_n rfl d_X1_branch_153 rfl ?_
            refine j_imul d_X1_branch_154 ?_
            refine j_iload d_X1_branch_155 rfl ?_
            refine j_bind (fun r22 h23 => ?_)
            refine j_callV (y := y_X9_addLeaf) (I' := i_X9_addLeaf) (avs := [.inl 3, .inl 0, .inl 0, .inl (tp_w (y11 * x3)), .inl x4]) (c := 41) (st := []) (c_X9_addLeaf G 3 0 0 (tp_w (y11 * x3)) x4 M0 r22 h23) cs_Grower_104 wd_647 wd_648 wd_649 tg_41 rfl rfl rfl (Nat.le_of_ble_eq_true rfl) ⟨rfl, rfl⟩ ⟨by show 1 + 1 ≤ d + 8; omega, by show 8 + (7 + 11) + 60 * (1) ≤ 60 * (d + 8); omega⟩ ⟨Nat.le_of_ble_eq_true rfl, Nat.le_of_ble_eq_true rfl⟩ d_X1_branch_157 ?_
            refine j_goto (tgt := 212) d_X1_branch_160 (by decide) ?_
            exact j_wk [true, true, false, true, true, true, true, false, false] rfl rfl (To_X1_branch_212 G gk d hgk rec_47 x1 x3 x4 x5 x6 r22 hrec_47 hg_x5)
        · refine j_aload_n rfl d_X1_branch_116 rfl ?_
          refine j_getr fl_Grower_57 tg_278 rv_278_1 d_X1_branch_117 ?_
          refine j_iconst ⟨by decide, by decide⟩ d_X1_branch_120 ?_
          refine j_iconst ⟨by decide, by decide⟩ d_X1_branch_121 ?_
          refine j_iconst ⟨by decide, by decide⟩ d_X1_branch_122 ?_
          refine j_iload d_X1_branch_123 rfl ?_
          refine j_iload d_X1_branch_125 rfl ?_
          refine j_imul d_X1_branch_127 ?_
          refine j_iload_n rfl d_X1_branch_128 rfl ?_
          refine j_imul d_X1_branch_129 ?_
          refine j_iload d_X1_branch_130 rfl ?_
          refine j_bind (fun r24 h25 => ?_)
          refine j_callV (y := y_X9_addLeaf) (I' := i_X9_addLeaf) (avs := [.inl 2, .inl 0, .inl 0, .inl (tp_w ((tp_w (y10 * y11)) * x3)), .inl x4]) (c := 41) (st := []) (c_X9_addLeaf G 2 0 0 (tp_w ((tp_w (y10 * y11)) * x3)) x4 M0 r24 h25) cs_Grower_104 wd_647 wd_648 wd_649 tg_41 rfl rfl rfl (Nat.le_of_ble_eq_true rfl) ⟨rfl, rfl⟩ ⟨by show 1 + 1 ≤ d + 8; omega, by show 8 + (7 + 11) + 60 * (1) ≤ 60 * (d + 8); omega⟩ ⟨Nat.le_of_ble_eq_true rfl, Nat.le_of_ble_eq_true rfl⟩ d_X1_branch_132 ?_
          refine j_goto (tgt := 212) d_X1_branch_135 (by decide) ?_
          exact j_wk [true, true, false, true, true, true, true, false, false] rfl rfl (To_X1_branch_212 G gk d hgk rec_47 x1 x3 x4 x5 x6 r24 hrec_47 hg_x5)
      · refine j_aload_n rfl d_X1_branch_90 rfl ?_
        refine j_getr fl_Grower_57 tg_278 rv_278_1 d_X1_branch_91 ?_
        refine j_iconst ⟨by decide, by decide⟩ d_X1_branch_94 ?_
        refine j_iload_n rfl d_X1_branch_95 rfl ?_
        refine j_iload d_X1_branch_96 rfl ?_
        refine j_iload_n rfl d_X1_branch_98 rfl ?_
        refine j_iload d_X1_branch_99 rfl ?_
        refine j_imul d_X1_branch_101 ?_
        refine j_iload d_X1_branch_102 rfl ?_
        refine j_bind (fun r26 h27 => ?_)
        refine j_callV (y := y_X9_addLeaf) (I' := i_X9_addLeaf) (avs := [.inl 0, .inl x3, .inl y10, .inl (tp_w (x3 * y10)), .inl x4]) (c := 41) (st := []) (c_X9_addLeaf G 0 x3 y10 (tp_w (x3 * y10)) x4 M0 r26 h27) cs_Grower_104 wd_647 wd_648 wd_649 tg_41 rfl rfl rfl (Nat.le_of_ble_eq_true rfl) ⟨rfl, rfl⟩ ⟨by show 1 + 1 ≤ d + 8; omega, by show 8 + (7 + 11) + 60 * (1) ≤ 60 * (d + 8); omega⟩ ⟨Nat.le_of_ble_eq_true rfl, Nat.le_of_ble_eq_true rfl⟩ d_X1_branch_104 ?_
        refine j_goto (tgt := 212) d_X1_branch_107 (by decide) ?_
        exact j_wk [true, true, false, true, true, true, true, false, false] rfl rfl (To_X1_branch_212 G gk d hgk rec_47 x1 x3 x4 x5 x6 r26 hrec_47 hg_x5)
def fo_X1_branch_47 (gk : Int → Int → Int → Int → tp_M → Option tp_M) (x1 : Int) (x3 : Int) (x4 : Int) (x5 : Int) (x6 : Int) (M0 : tp_M) : Option (tp_M) := tp_lp (σ := Int × tp_M) (fun rec_ u => fo_X1_branch_47B gk x1 x3 x4 x5 (fun x6' M0' => rec_ (x6', M0')) u.1 u.2) tp_N (x6, M0)
set_option maxHeartbeats 4000000 in
set_option maxRecDepth 100000 in
theorem To_X1_branch_47 (G : tp_G) (gk : Int → Int → Int → Int → tp_M → Option tp_M) (d : Nat) (hgk : ∀ (a0 a1 a2 a3 : Int) (M r : tp_M), gk a0 a1 a2 a3 M = some r → ∀ l, Met l y_X1_growKnot (tp_ws y_X1_growKnot i_X1_growKnot) (tp_rm d) (tp_Pc G [.inr (.inr 278), .inl a0, .inl a1, .inl a2, .inl a3] tp_NC (tp_st M)) (tp_Q G (o_X1_growKnot r)) 0 0 (tp_A G)) (x1 : Int) (x3 : Int) (x4 : Int) (x5 : Int) (x6 : Int) (M0 : tp_M) (hg_x5 : tp_tg x5 = 0) : tp_J i_X1_branch (tp_rm (d + 8)) G 0 0 o_X1_branch tp_NC (tp_st M0) 0 0 [some (.inr (.inr 278)), some (.inl x1), none, some (.inl x3), some (.inl x4), some (.inr (.inr x5)), some (.inl x6), none, none] 47 [] (fo_X1_branch_47 gk x1 x3 x4 x5 x6 M0) := by
  unfold fo_X1_branch_47
  exact j_lp (σ := Int × tp_M) (n' := fun _ => tp_NC) (g' := fun u => tp_st u.2) (k' := fun _ => 0) (q' := fun _ => 0) (lv' := fun u => [some (.inr (.inr 278)), some (.inl x1), none, some (.inl x3), some (.inl x4), some (.inr (.inr x5)), some (.inl u.1), none, none]) (fun rec_ hrec u => To_X1_branch_47B G gk d hgk x1 x3 x4 x5 hg_x5 (fun x6' M0' => rec_ (x6', M0')) (fun x6' M0' => hrec (x6', M0')) u.1 u.2) tp_N (x6, M0)
def fo_X1_branch_20 (gk : Int → Int → Int → Int → tp_M → Option tp_M) (x1 : Int) (x2 : Int) (x3 : Int) (x4 : Int) (s0 : Int) (M0 : tp_M) : Option (tp_M) :=
  if s0 = -1 then
    some M0
  else
    if tp_tg s0 = 0 then
      (f_X0_find s0 x2 (M0 1 0) M0).bind fun r5 =>
      if ¬ r5.1 = 0 then
        fo_X1_branch_47 gk x1 x3 x4 s0 0 r5.2
      else
        some r5.2 else none
set_option maxHeartbeats 4000000 in
set_option maxRecDepth 100000 in
theorem To_X1_branch_20 (G : tp_G) (gk : Int → Int → Int → Int → tp_M → Option tp_M) (d : Nat) (hgk : ∀ (a0 a1 a2 a3 : Int) (M r : tp_M), gk a0 a1 a2 a3 M = some r → ∀ l, Met l y_X1_growKnot (tp_ws y_X1_growKnot i_X1_growKnot) (tp_rm d) (tp_Pc G [.inr (.inr 278), .inl a0, .inl a1, .inl a2, .inl a3] tp_NC (tp_st M)) (tp_Q G (o_X1_growKnot r)) 0 0 (tp_A G)) (x1 : Int) (x2 : Int) (x3 : Int) (x4 : Int) (s0 : Int) (M0 : tp_M) (hg_x2 : tp_tg x2 = 21) : tp_J i_X1_branch (tp_rm (d + 8)) G 0 0 o_X1_branch tp_NC (tp_st M0) 0 0 [some (.inr (.inr 278)), some (.inl x1), some (.inr (.inr x2)), some (.inl x3), some (.inl x4), none, none, none, none] 20 [.inr (.inr s0)] (fo_X1_branch_20 gk x1 x2 x3 x4 s0 M0) := by
  unfold fo_X1_branch_20
  refine j_astore (lv' := [some (.inr (.inr 278)), some (.inl x1), some (.inr (.inr x2)), some (.inl x3), some (.inl x4), some (.inr (.inr s0)), none, none, none]) d_X1_branch_20 (Nat.le_of_ble_eq_true rfl) rfl ?_
  refine j_aload d_X1_branch_22 rfl ?_
  refine j_ifnull (tgt := 43) d_X1_branch_24 (by decide) (fun h3 => ?_) (fun h3 => ?_)
  · exact j_vret d_X1_branch_43 rfl rfl ⟨rfl, rfl⟩
  · refine j_aload d_X1_branch_27 rfl ?_
    refine j_aload_n rfl d_X1_branch_29 rfl ?_
    refine j_aload_n rfl d_X1_branch_30 rfl ?_
    refine j_getr fl_Grower_53 tg_278 rv_278_0 d_X1_branch_31 ?_
    refine j_geti fl_Grower_88 tg_1 d_X1_branch_34 ?_
    refine tp_chk (fun ht4 => ?_)
    refine j_bind (fun r5 h6 => ?_)
    refine j_callV (y := y_X0_find) (I' := i_X0_find) (avs := [.inr (.inr x2), .inl (M0 1 0)]) (c := s0) (st := []) (c_X0_find G s0 x2 (M0 1 0) M0 r5 h6) cs_Grower_91 wd_646 wd_575 wd_576 ht4 rfl rfl rfl (Nat.le_of_ble_eq_true rfl) ⟨rfl, rfl⟩ ⟨by show 4 + 1 ≤ d + 8; omega, by show 8 + (4 + 11) + 60 * (4) ≤ 60 * (d + 8); omega⟩ ⟨Nat.le_of_ble_eq_true rfl, Nat.le_of_ble_eq_true rfl⟩ d_X1_branch_37 ?_
    refine j_if_ne (tgt := 44) d_X1_branch_40 (by decide) (fun h7 => ?_) (fun h7 => ?_)
    · refine j_iconst ⟨by decide, by decide⟩ d_X1_branch_44 ?_
      refine j_istore (lv' := [some (.inr (.inr 278)), some (.inl x1), some (.inr (.inr x2)), some (.inl x3), some (.inl x4), some (.inr (.inr s0)), some (.inl 0), none, none]) d_X1_branch_45 (Nat.le_of_ble_eq_true rfl) rfl ?_
      exact j_wk [true, true, false, true, true, true, true, false, false] rfl rfl (To_X1_branch_47 G gk d hgk x1 x3 x4 s0 0 r5.2 ht4)
    · exact j_vret d_X1_branch_43 rfl rfl ⟨rfl, rfl⟩
def fo_X1_branch_19 (gk : Int → Int → Int → Int → tp_M → Option tp_M) (x1 : Int) (x2 : Int) (x3 : Int) (x4 : Int) (M0 : tp_M) : Option (tp_M) :=
  fo_X1_branch_20 gk x1 x2 x3 x4 (-1) M0
set_option maxHeartbeats 4000000 in
set_option maxRecDepth 100000 in
theorem To_X1_branch_19 (G : tp_G) (gk : Int → Int → Int → Int → tp_M → Option tp_M) (d : Nat) (hgk : ∀ (a0 a1 a2 a3 : Int) (M r : tp_M), gk a0 a1 a2 a3 M = some r → ∀ l, Met l y_X1_growKnot (tp_ws y_X1_growKnot i_X1_growKnot) (tp_rm d) (tp_Pc G [.inr (.inr 278), .inl a0, .inl a1, .inl a2, .inl a3] tp_NC (tp_st M)) (tp_Q G (o_X1_growKnot r)) 0 0 (tp_A G)) (x1 : Int) (x2 : Int) (x3 : Int) (x4 : Int) (M0 : tp_M) (hg_x2 : tp_tg x2 = 21) : tp_J i_X1_branch (tp_rm (d + 8)) G 0 0 o_X1_branch tp_NC (tp_st M0) 0 0 [some (.inr (.inr 278)), some (.inl x1), some (.inr (.inr x2)), some (.inl x3), some (.inl x4), none, none, none, none] 19 [] (fo_X1_branch_19 gk x1 x2 x3 x4 M0) := by
  unfold fo_X1_branch_19
  refine j_null d_X1_branch_19 ?_
  exact j_wk [true, true, true, true, true, false, false, false, false] rfl rfl (To_X1_branch_20 G gk d hgk x1 x2 x3 x4 (-1) M0 hg_x2)
def fo_X1_branch (gk : Int → Int → Int → Int → tp_M → Option tp_M) (a0 : Int) (a1 : Int) (a2 : Int) (a3 : Int) (M0 : tp_M) : Option (tp_M) :=
  if tp_tg a1 = 21 then
    if a0 < 0 then
      fo_X1_branch_19 gk a0 a1 a2 a3 M0
    else
      if 6 < a0 then
        fo_X1_branch_19 gk a0 a1 a2 a3 M0
      else
        if 0 ≤ a0 ∧ a0 < 8 then
          fo_X1_branch_20 gk a0 a1 a2 a3 (312 + 21 * a0) M0 else none else none
set_option maxHeartbeats 4000000 in
set_option maxRecDepth 100000 in
theorem To_X1_branch (G : tp_G) (gk : Int → Int → Int → Int → tp_M → Option tp_M) (d : Nat) (hgk : ∀ (a0 a1 a2 a3 : Int) (M r : tp_M), gk a0 a1 a2 a3 M = some r → ∀ l, Met l y_X1_growKnot (tp_ws y_X1_growKnot i_X1_growKnot) (tp_rm d) (tp_Pc G [.inr (.inr 278), .inl a0, .inl a1, .inl a2, .inl a3] tp_NC (tp_st M)) (tp_Q G (o_X1_growKnot r)) 0 0 (tp_A G)) (a0 : Int) (a1 : Int) (a2 : Int) (a3 : Int) (M0 : tp_M) : tp_J i_X1_branch (tp_rm (d + 8)) G 0 0 o_X1_branch tp_NC (tp_st M0) 0 0 [some (.inr (.inr 278)), some (.inl a0), some (.inr (.inr a1)), some (.inl a2), some (.inl a3), none, none, none, none] 0 [] (fo_X1_branch gk a0 a1 a2 a3 M0) := by
  unfold fo_X1_branch
  refine tp_chk (fun ht1 => ?_)
  refine j_iload_n rfl d_X1_branch_0 rfl ?_
  refine j_if_lt (tgt := 19) d_X1_branch_1 (by decide) (fun h2 => ?_) (fun h2 => ?_)
  · exact j_wk [true, true, true, true, true, false, false, false, false] rfl rfl (To_X1_branch_19 G gk d hgk a0 a1 a2 a3 M0 ht1)
  · refine j_iload_n rfl d_X1_branch_4 rfl ?_
    refine j_bipush ⟨by decide, by decide⟩ (by decide +kernel) d_X1_branch_5 ?_
    refine j_icmp_gt (tgt := 19) d_X1_branch_7 (by decide) (fun h28 => ?_) (fun h28 => ?_)
    · exact j_wk [true, true, true, true, true, false, false, false, false] rfl rfl (To_X1_branch_19 G gk d hgk a0 a1 a2 a3 M0 ht1)
    · refine j_aload_n rfl d_X1_branch_10 rfl ?_
      refine j_getr fl_Grower_20 tg_278 rv_278_3 d_X1_branch_11 ?_
      refine j_iload_n rfl d_X1_branch_14 rfl ?_
      refine j_aald (v := (312 + 21 * a0)) (ty := (.object "TypesAtPrime$Factors")) tg_302 (by decide) al_302 (by decide) rfl d_X1_branch_15 (fun h1 h2 => (aa_302 _ h1 h2).1) (fun hi29 => ?_)
      refine j_goto (tgt := 20) d_X1_branch_16 (by decide) ?_
      exact j_wk [true, true, true, true, true, false, false, false, false] rfl rfl (To_X1_branch_20 G gk d hgk a0 a1 a2 a3 (312 + 21 * a0) M0 ht1)
set_option maxHeartbeats 4000000 in
set_option maxRecDepth 100000 in
theorem co_X1_branch (G : tp_G) (gk : Int → Int → Int → Int → tp_M → Option tp_M) (d : Nat) (hgk : ∀ (a0 a1 a2 a3 : Int) (M r : tp_M), gk a0 a1 a2 a3 M = some r → ∀ l, Met l y_X1_growKnot (tp_ws y_X1_growKnot i_X1_growKnot) (tp_rm d) (tp_Pc G [.inr (.inr 278), .inl a0, .inl a1, .inl a2, .inl a3] tp_NC (tp_st M)) (tp_Q G (o_X1_growKnot r)) 0 0 (tp_A G)) (a0 : Int) (a1 : Int) (a2 : Int) (a3 : Int) (M0 : tp_M) (r : tp_M) (h : fo_X1_branch gk a0 a1 a2 a3 M0 = some r) (l : Launch) : Met l y_X1_branch (tp_ws y_X1_branch i_X1_branch) (tp_rm (d + 8)) (tp_Pc G [.inr (.inr 278), .inl a0, .inr (.inr a1), .inl a2, .inl a3] tp_NC (tp_st M0)) (tp_Q G (o_X1_branch r)) 0 0 (tp_A G) :=
  tp_met (I := i_X1_branch) (y := y_X1_branch) (by decide +kernel) (Eq.refl "TypesAtPrime$Grower") (Eq.refl "branch") (lv := [some (.inr (.inr 278)), some (.inl a0), some (.inr (.inr a1)), some (.inl a2), some (.inl a3), none, none, none, none]) rfl (Nat.le_of_ble_eq_true rfl) (To_X1_branch G gk d hgk a0 a1 a2 a3 M0) h l
theorem wd_294 : (.fieldLink "TypesAtPrime$Grower" 127 "TypesAtPrime$Tree" "knotCount" "I" : Cond) ∈ lw_tbl := List.mem_append_right _ (List.mem_of_getElem? (i := 294) (by decide +kernel))
theorem fl_Grower_127 : tp_F "TypesAtPrime$Grower" 127 9 2 0 := ⟨_, _, _, rfl, by decide, rfl, wd_294, rfl, by decide⟩
theorem wd_677 : (.code ⟨"TypesAtPrime$Grower", "writeKey", "(LTypesAtPrime$Knot;)V"⟩ prog_3_method_6_code 5 (none : Option Jvm.ClassFile.FieldType) : Cond) ∈ lw_tbl := List.mem_append_right _ (List.mem_of_getElem? (i := 677) (by decide +kernel))
theorem cs_Grower_134 : tp_CS "TypesAtPrime$Grower" 134 y_X1_writeKey i_X1_writeKey 1 := ⟨wd_677, wd_10, by decide, by decide, by decide +kernel⟩
theorem wd_674 : (.methodLink "TypesAtPrime$Grower" 134 ⟨"TypesAtPrime$Grower", "writeKey", "(LTypesAtPrime$Knot;)V"⟩ : Cond) ∈ lw_tbl := List.mem_append_right _ (List.mem_of_getElem? (i := 674) (by decide +kernel))
theorem wd_676 : (.instanceMethod ⟨"TypesAtPrime$Grower", "writeKey", "(LTypesAtPrime$Knot;)V"⟩ : Cond) ∈ lw_tbl := List.mem_append_right _ (List.mem_of_getElem? (i := 676) (by decide +kernel))
theorem ws_20 : (.selects "TypesAtPrime$Grower" ⟨"TypesAtPrime$Grower", "writeKey", "(LTypesAtPrime$Knot;)V"⟩ ⟨"TypesAtPrime$Grower", "writeKey", "(LTypesAtPrime$Knot;)V"⟩ : Cond) ∈ lw_tbl := List.mem_append_left _ (List.mem_of_getElem? (i := 20) (by decide +kernel))
theorem wd_696 : (.code ⟨"TypesAtPrime$Path", "enterKnot", "(LTypesAtPrime$Knot;)V"⟩ prog_7_method_2_code 2 (none : Option Jvm.ClassFile.FieldType) : Cond) ∈ lw_tbl := List.mem_append_right _ (List.mem_of_getElem? (i := 696) (by decide +kernel))
theorem cs_Grower_137 : tp_CS "TypesAtPrime$Grower" 137 y_X5_enterKnot i_X5_enterKnot 1 := ⟨wd_696, wd_11, by decide, by decide, by decide +kernel⟩
theorem wd_693 : (.methodLink "TypesAtPrime$Grower" 137 ⟨"TypesAtPrime$Path", "enterKnot", "(LTypesAtPrime$Knot;)V"⟩ : Cond) ∈ lw_tbl := List.mem_append_right _ (List.mem_of_getElem? (i := 693) (by decide +kernel))
theorem wd_694 : (.instanceMethod ⟨"TypesAtPrime$Path", "enterKnot", "(LTypesAtPrime$Knot;)V"⟩ : Cond) ∈ lw_tbl := List.mem_append_right _ (List.mem_of_getElem? (i := 694) (by decide +kernel))
theorem wd_695 : (.selects "TypesAtPrime$Path" ⟨"TypesAtPrime$Path", "enterKnot", "(LTypesAtPrime$Knot;)V"⟩ ⟨"TypesAtPrime$Path", "enterKnot", "(LTypesAtPrime$Knot;)V"⟩ : Cond) ∈ lw_tbl := List.mem_append_right _ (List.mem_of_getElem? (i := 695) (by decide +kernel))
theorem wd_701 : (.code ⟨"TypesAtPrime$Grower", "findPoints", "(LTypesAtPrime$Knot;)V"⟩ prog_3_method_8_code 5 (none : Option Jvm.ClassFile.FieldType) : Cond) ∈ lw_tbl := List.mem_append_right _ (List.mem_of_getElem? (i := 701) (by decide +kernel))
theorem cs_Grower_140 : tp_CS "TypesAtPrime$Grower" 140 y_X1_findPoints i_X1_findPoints 1 := ⟨wd_701, wd_10, by decide, by decide, by decide +kernel⟩
theorem wd_698 : (.methodLink "TypesAtPrime$Grower" 140 ⟨"TypesAtPrime$Grower", "findPoints", "(LTypesAtPrime$Knot;)V"⟩ : Cond) ∈ lw_tbl := List.mem_append_right _ (List.mem_of_getElem? (i := 698) (by decide +kernel))
theorem wd_700 : (.instanceMethod ⟨"TypesAtPrime$Grower", "findPoints", "(LTypesAtPrime$Knot;)V"⟩ : Cond) ∈ lw_tbl := List.mem_append_right _ (List.mem_of_getElem? (i := 700) (by decide +kernel))
theorem ws_22 : (.selects "TypesAtPrime$Grower" ⟨"TypesAtPrime$Grower", "findPoints", "(LTypesAtPrime$Knot;)V"⟩ ⟨"TypesAtPrime$Grower", "findPoints", "(LTypesAtPrime$Knot;)V"⟩ : Cond) ∈ lw_tbl := List.mem_append_left _ (List.mem_of_getElem? (i := 22) (by decide +kernel))
theorem wd_740 : (.code ⟨"TypesAtPrime$Grower", "findSides", "(LTypesAtPrime$Knot;)V"⟩ prog_3_method_11_code 6 (none : Option Jvm.ClassFile.FieldType) : Cond) ∈ lw_tbl := List.mem_append_right _ (List.mem_of_getElem? (i := 740) (by decide +kernel))
theorem cs_Grower_143 : tp_CS "TypesAtPrime$Grower" 143 y_X1_findSides i_X1_findSides 1 := ⟨wd_740, wd_10, by decide, by decide, by decide +kernel⟩
theorem wd_737 : (.methodLink "TypesAtPrime$Grower" 143 ⟨"TypesAtPrime$Grower", "findSides", "(LTypesAtPrime$Knot;)V"⟩ : Cond) ∈ lw_tbl := List.mem_append_right _ (List.mem_of_getElem? (i := 737) (by decide +kernel))
theorem wd_739 : (.instanceMethod ⟨"TypesAtPrime$Grower", "findSides", "(LTypesAtPrime$Knot;)V"⟩ : Cond) ∈ lw_tbl := List.mem_append_right _ (List.mem_of_getElem? (i := 739) (by decide +kernel))
theorem ws_25 : (.selects "TypesAtPrime$Grower" ⟨"TypesAtPrime$Grower", "findSides", "(LTypesAtPrime$Knot;)V"⟩ ⟨"TypesAtPrime$Grower", "findSides", "(LTypesAtPrime$Knot;)V"⟩ : Cond) ∈ lw_tbl := List.mem_append_left _ (List.mem_of_getElem? (i := 25) (by decide +kernel))
theorem wd_184 : (.fieldLink "TypesAtPrime$Grower" 146 "TypesAtPrime$Knot" "sideCount" "I" : Cond) ∈ lw_tbl := List.mem_append_right _ (List.mem_of_getElem? (i := 184) (by decide +kernel))
theorem fl_Grower_146 : tp_F "TypesAtPrime$Grower" 146 2 7 0 := ⟨_, _, _, rfl, by decide, rfl, wd_184, rfl, by decide⟩
theorem cs_Grower_151 : tp_CS "TypesAtPrime$Grower" 151 y_X9_sideAt i_X9_sideAt 2 := ⟨wd_775, wd_6, by decide, by decide, by decide +kernel⟩
theorem wd_772 : (.methodLink "TypesAtPrime$Grower" 151 ⟨"TypesAtPrime$Tree", "sideAt", "(II)LTypesAtPrime$Side;"⟩ : Cond) ∈ lw_tbl := List.mem_append_right _ (List.mem_of_getElem? (i := 772) (by decide +kernel))
theorem wd_793 : (.code ⟨"TypesAtPrime$Path", "enterSide", "(ILTypesAtPrime$Side;)V"⟩ prog_7_method_3_code 3 (none : Option Jvm.ClassFile.FieldType) : Cond) ∈ lw_tbl := List.mem_append_right _ (List.mem_of_getElem? (i := 793) (by decide +kernel))
theorem cs_Grower_162 : tp_CS "TypesAtPrime$Grower" 162 y_X5_enterSide i_X5_enterSide 2 := ⟨wd_793, wd_11, by decide, by decide, by decide +kernel⟩
theorem wd_790 : (.methodLink "TypesAtPrime$Grower" 162 ⟨"TypesAtPrime$Path", "enterSide", "(ILTypesAtPrime$Side;)V"⟩ : Cond) ∈ lw_tbl := List.mem_append_right _ (List.mem_of_getElem? (i := 790) (by decide +kernel))
theorem wd_791 : (.instanceMethod ⟨"TypesAtPrime$Path", "enterSide", "(ILTypesAtPrime$Side;)V"⟩ : Cond) ∈ lw_tbl := List.mem_append_right _ (List.mem_of_getElem? (i := 791) (by decide +kernel))
theorem wd_792 : (.selects "TypesAtPrime$Path" ⟨"TypesAtPrime$Path", "enterSide", "(ILTypesAtPrime$Side;)V"⟩ ⟨"TypesAtPrime$Path", "enterSide", "(ILTypesAtPrime$Side;)V"⟩ : Cond) ∈ lw_tbl := List.mem_append_right _ (List.mem_of_getElem? (i := 792) (by decide +kernel))
theorem wd_645 : (.code ⟨"TypesAtPrime$Grower", "branch", "(I[III)V"⟩ prog_3_method_3_code 9 (none : Option Jvm.ClassFile.FieldType) : Cond) ∈ lw_tbl := List.mem_append_right _ (List.mem_of_getElem? (i := 645) (by decide +kernel))
theorem cs_Grower_73 : tp_CS "TypesAtPrime$Grower" 73 y_X1_branch i_X1_branch 4 := ⟨wd_645, wd_10, by decide, by decide, by decide +kernel⟩
theorem wd_642 : (.methodLink "TypesAtPrime$Grower" 73 ⟨"TypesAtPrime$Grower", "branch", "(I[III)V"⟩ : Cond) ∈ lw_tbl := List.mem_append_right _ (List.mem_of_getElem? (i := 642) (by decide +kernel))
theorem wd_644 : (.instanceMethod ⟨"TypesAtPrime$Grower", "branch", "(I[III)V"⟩ : Cond) ∈ lw_tbl := List.mem_append_right _ (List.mem_of_getElem? (i := 644) (by decide +kernel))
theorem ws_17 : (.selects "TypesAtPrime$Grower" ⟨"TypesAtPrime$Grower", "branch", "(I[III)V"⟩ ⟨"TypesAtPrime$Grower", "branch", "(I[III)V"⟩ : Cond) ∈ lw_tbl := List.mem_append_left _ (List.mem_of_getElem? (i := 17) (by decide +kernel))
theorem wd_779 : (.code ⟨"TypesAtPrime$Grower", "writeResidual", "(LTypesAtPrime$Knot;LTypesAtPrime$Side;)V"⟩ prog_3_method_14_code 6 (none : Option Jvm.ClassFile.FieldType) : Cond) ∈ lw_tbl := List.mem_append_right _ (List.mem_of_getElem? (i := 779) (by decide +kernel))
theorem cs_Grower_155 : tp_CS "TypesAtPrime$Grower" 155 y_X1_writeResidual i_X1_writeResidual 2 := ⟨wd_779, wd_10, by decide, by decide, by decide +kernel⟩
theorem wd_776 : (.methodLink "TypesAtPrime$Grower" 155 ⟨"TypesAtPrime$Grower", "writeResidual", "(LTypesAtPrime$Knot;LTypesAtPrime$Side;)V"⟩ : Cond) ∈ lw_tbl := List.mem_append_right _ (List.mem_of_getElem? (i := 776) (by decide +kernel))
theorem wd_778 : (.instanceMethod ⟨"TypesAtPrime$Grower", "writeResidual", "(LTypesAtPrime$Knot;LTypesAtPrime$Side;)V"⟩ : Cond) ∈ lw_tbl := List.mem_append_right _ (List.mem_of_getElem? (i := 778) (by decide +kernel))
theorem ws_27 : (.selects "TypesAtPrime$Grower" ⟨"TypesAtPrime$Grower", "writeResidual", "(LTypesAtPrime$Knot;LTypesAtPrime$Side;)V"⟩ ⟨"TypesAtPrime$Grower", "writeResidual", "(LTypesAtPrime$Knot;LTypesAtPrime$Side;)V"⟩ : Cond) ∈ lw_tbl := List.mem_append_left _ (List.mem_of_getElem? (i := 27) (by decide +kernel))
theorem wd_673 : (.code ⟨"TypesAtPrime$Grower", "writeFirstKey", "(LTypesAtPrime$Knot;)V"⟩ prog_3_method_5_code 2 (none : Option Jvm.ClassFile.FieldType) : Cond) ∈ lw_tbl := List.mem_append_right _ (List.mem_of_getElem? (i := 673) (by decide +kernel))
theorem cs_Grower_130 : tp_CS "TypesAtPrime$Grower" 130 y_X1_writeFirstKey i_X1_writeFirstKey 1 := ⟨wd_673, wd_10, by decide, by decide, by decide +kernel⟩
theorem wd_670 : (.methodLink "TypesAtPrime$Grower" 130 ⟨"TypesAtPrime$Grower", "writeFirstKey", "(LTypesAtPrime$Knot;)V"⟩ : Cond) ∈ lw_tbl := List.mem_append_right _ (List.mem_of_getElem? (i := 670) (by decide +kernel))
theorem wd_672 : (.instanceMethod ⟨"TypesAtPrime$Grower", "writeFirstKey", "(LTypesAtPrime$Knot;)V"⟩ : Cond) ∈ lw_tbl := List.mem_append_right _ (List.mem_of_getElem? (i := 672) (by decide +kernel))
theorem ws_19 : (.selects "TypesAtPrime$Grower" ⟨"TypesAtPrime$Grower", "writeFirstKey", "(LTypesAtPrime$Knot;)V"⟩ ⟨"TypesAtPrime$Grower", "writeFirstKey", "(LTypesAtPrime$Knot;)V"⟩ : Cond) ∈ lw_tbl := List.mem_append_left _ (List.mem_of_getElem? (i := 19) (by decide +kernel))
theorem wd_663 : (.code ⟨"TypesAtPrime$Tree", "addKnot", "(IIII)LTypesAtPrime$Knot;"⟩ prog_11_method_6_code 6 (some (.object "TypesAtPrime$Knot")) : Cond) ∈ lw_tbl := List.mem_append_right _ (List.mem_of_getElem? (i := 663) (by decide +kernel))
theorem cs_Grower_123 : tp_CS "TypesAtPrime$Grower" 123 y_X9_addKnot i_X9_addKnot 4 := ⟨wd_663, wd_6, by decide, by decide, by decide +kernel⟩
theorem wd_660 : (.methodLink "TypesAtPrime$Grower" 123 ⟨"TypesAtPrime$Tree", "addKnot", "(IIII)LTypesAtPrime$Knot;"⟩ : Cond) ∈ lw_tbl := List.mem_append_right _ (List.mem_of_getElem? (i := 660) (by decide +kernel))
theorem wd_661 : (.instanceMethod ⟨"TypesAtPrime$Tree", "addKnot", "(IIII)LTypesAtPrime$Knot;"⟩ : Cond) ∈ lw_tbl := List.mem_append_right _ (List.mem_of_getElem? (i := 661) (by decide +kernel))
theorem wd_662 : (.selects "TypesAtPrime$Tree" ⟨"TypesAtPrime$Tree", "addKnot", "(IIII)LTypesAtPrime$Knot;"⟩ ⟨"TypesAtPrime$Tree", "addKnot", "(IIII)LTypesAtPrime$Knot;"⟩ : Cond) ∈ lw_tbl := List.mem_append_right _ (List.mem_of_getElem? (i := 662) (by decide +kernel))
def fo_X1_growKnot_231 (br : Int → Int → Int → Int → tp_M → Option tp_M) (rec_171 : Int → tp_M → Option (tp_M)) (x1 : Int) (x3 : Int) (x5 : Int) (x6 : Int) (x7 : Int) (M0 : tp_M) : Option (tp_M) :=
  tp_lt (tp_w (x7 + 1)) fun y21 =>
  rec_171 y21 M0
set_option maxHeartbeats 4000000 in
set_option maxRecDepth 100000 in
theorem To_X1_growKnot_231 (G : tp_G) (br : Int → Int → Int → Int → tp_M → Option tp_M) (d : Nat) (hbr : ∀ (a0 a1 a2 a3 : Int) (M r : tp_M), br a0 a1 a2 a3 M = some r → ∀ l, Met l y_X1_branch (tp_ws y_X1_branch i_X1_branch) (tp_rm d) (tp_Pc G [.inr (.inr 278), .inl a0, .inr (.inr a1), .inl a2, .inl a3] tp_NC (tp_st M)) (tp_Q G (o_X1_branch r)) 0 0 (tp_A G)) (rec_171 : Int → tp_M → Option (tp_M)) (x1 : Int) (x3 : Int) (x5 : Int) (x6 : Int) (x7 : Int) (M0 : tp_M) (hrec_171 : ∀ (x7' : Int) (M' : tp_M), tp_J i_X1_growKnot (tp_rm (d + 8)) G 0 0 o_X1_growKnot tp_NC (tp_st M') 0 0 [some (.inr (.inr 278)), some (.inl x1), none, some (.inl x3), none, some (.inr (.inr x5)), some (.inl x6), some (.inl (x7')), none] 171 [] (rec_171 x7' M')) (hg_x5 : tp_tg x5 = 2) : tp_J i_X1_growKnot (tp_rm (d + 8)) G 0 0 o_X1_growKnot tp_NC (tp_st M0) 0 0 [some (.inr (.inr 278)), some (.inl x1), none, some (.inl x3), none, some (.inr (.inr x5)), some (.inl x6), some (.inl x7), none] 231 [] (fo_X1_growKnot_231 br rec_171 x1 x3 x5 x6 x7 M0) := by
  unfold fo_X1_growKnot_231
  refine j_iincN (lv' := fun y21 => [some (.inr (.inr 278)), some (.inl x1), none, some (.inl x3), none, some (.inr (.inr x5)), some (.inl x6), some (.inl y21), none]) d_X1_growKnot_231 rfl (Nat.le_of_ble_eq_true rfl) (fun _ => rfl) (fun y21 hy21 => ?_)
  refine j_goto (tgt := 171) d_X1_growKnot_234 (by decide) ?_
  exact j_wk [true, true, false, true, false, true, true, true, false] rfl rfl (hrec_171 y21 M0)
def fo_X1_growKnot_171B (br : Int → Int → Int → Int → tp_M → Option tp_M) (x1 : Int) (x3 : Int) (x5 : Int) (x6 : Int) (rec_171 : Int → tp_M → Option (tp_M)) (x7 : Int) (M0 : tp_M) : Option (tp_M) :=
  if (M0 x5 7) ≤ x7 then
    some M0
  else
    (f_X9_sideAt x6 x7 M0).bind fun r18 =>
    if r18 = -1 then
      fo_X1_growKnot_231 br rec_171 x1 x3 x5 x6 x7 M0
    else
      (f_X5_enterSide x1 r18 M0).bind fun r22 =>
      if tp_tg r18 = 7 then
        (br x1 (r18 + 2) (tp_w (x3 * (r22 r18 3))) x6 r22).bind fun r25 =>
        fo_X1_growKnot_231 br rec_171 x1 x3 x5 x6 x7 r25 else none
set_option maxHeartbeats 4000000 in
set_option maxRecDepth 100000 in
theorem To_X1_growKnot_171B (G : tp_G) (br : Int → Int → Int → Int → tp_M → Option tp_M) (d : Nat) (hbr : ∀ (a0 a1 a2 a3 : Int) (M r : tp_M), br a0 a1 a2 a3 M = some r → ∀ l, Met l y_X1_branch (tp_ws y_X1_branch i_X1_branch) (tp_rm d) (tp_Pc G [.inr (.inr 278), .inl a0, .inr (.inr a1), .inl a2, .inl a3] tp_NC (tp_st M)) (tp_Q G (o_X1_branch r)) 0 0 (tp_A G)) (x1 : Int) (x3 : Int) (x5 : Int) (x6 : Int) (hg_x5 : tp_tg x5 = 2) (rec_171 : Int → tp_M → Option (tp_M)) (hrec_171 : ∀ (x7' : Int) (M' : tp_M), tp_J i_X1_growKnot (tp_rm (d + 8)) G 0 0 o_X1_growKnot tp_NC (tp_st M') 0 0 [some (.inr (.inr 278)), some (.inl x1), none, some (.inl x3), none, some (.inr (.inr x5)), some (.inl x6), some (.inl (x7')), none] 171 [] (rec_171 x7' M')) (x7 : Int) (M0 : tp_M) : tp_J i_X1_growKnot (tp_rm (d + 8)) G 0 0 o_X1_growKnot tp_NC (tp_st M0) 0 0 [some (.inr (.inr 278)), some (.inl x1), none, some (.inl x3), none, some (.inr (.inr x5)), some (.inl x6), some (.inl x7), none] 171 [] (fo_X1_growKnot_171B br x1 x3 x5 x6 rec_171 x7 M0) := by
  unfold fo_X1_growKnot_171B
  refine j_iload d_X1_growKnot_171 rfl ?_
  refine j_aload d_X1_growKnot_173 rfl ?_
  refine j_geti fl_Grower_146 hg_x5 d_X1_growKnot_175 ?_
  refine j_icmp_ge (tgt := 237) d_X1_growKnot_178 (by decide) (fun h17 => ?_) (fun h17 => ?_)
  · exact j_vret d_X1_growKnot_237 rfl rfl ⟨rfl, rfl⟩
  · refine j_aload_n rfl d_X1_growKnot_181 rfl ?_
    refine j_getr fl_Grower_57 tg_278 rv_278_1 d_X1_growKnot_182 ?_
    refine j_iload d_X1_growKnot_185 rfl ?_
    refine j_iload d_X1_growKnot_187 rfl ?_
    refine j_bind (fun r18 h19 => ?_)
    refine j_callV (y := y_X9_sideAt) (I' := i_X9_sideAt) (avs := [.inl x6, .inl x7]) (c := 41) (st := []) (c_X9_sideAt G x6 x7 M0 r18 h19) cs_Grower_151 wd_772 wd_773 wd_774 tg_41 rfl rfl rfl (Nat.le_of_ble_eq_true rfl) ⟨rfl, rfl⟩ ⟨by show 1 + 1 ≤ d + 8; omega, by show 8 + (5 + 11) + 60 * (1) ≤ 60 * (d + 8); omega⟩ ⟨Nat.le_of_ble_eq_true rfl, Nat.le_of_ble_eq_true rfl⟩ d_X1_growKnot_189 ?_
    refine j_astore (lv' := [some (.inr (.inr 278)), some (.inl x1), none, some (.inl x3), none, some (.inr (.inr x5)), some (.inl x6), some (.inl x7), some (.inr (.inr r18))]) d_X1_growKnot_192 (Nat.le_of_ble_eq_true rfl) rfl ?_
    refine j_aload d_X1_growKnot_194 rfl ?_
    refine j_ifnonnull (tgt := 202) d_X1_growKnot_196 (by decide) (fun h20 => ?_) (fun h20 => ?_)
    · refine j_goto (tgt := 231) d_X1_growKnot_199 (by decide) ?_
      exact j_wk [true, true, false, true, false, true, true, true, false] rfl rfl (To_X1_growKnot_231 G br d hbr rec_171 x1 x3 x5 x6 x7 M0 hrec_171 hg_x5)
    · refine j_aload_n rfl d_X1_growKnot_202 rfl ?_
      refine j_getr fl_Grower_12 tg_278 rv_278_2 d_X1_growKnot_203 ?_
      refine j_iload_n rfl d_X1_growKnot_206 rfl ?_
      refine j_aload d_X1_growKnot_207 rfl ?_
      refine j_bind (fun r22 h23 => ?_)
      refine j_callV (y := y_X5_enterSide) (I' := i_X5_enterSide) (avs := [.inl x1, .inr (.inr r18)]) (c := 279) (st := []) (c_X5_enterSide G x1 r18 M0 r22 h23) cs_Grower_162 wd_790 wd_791 wd_792 tg_279 rfl rfl rfl (Nat.le_of_ble_eq_true rfl) ⟨rfl, rfl⟩ ⟨by show 1 + 1 ≤ d + 8; omega, by show 8 + (3 + 11) + 60 * (1) ≤ 60 * (d + 8); omega⟩ ⟨Nat.le_of_ble_eq_true rfl, Nat.le_of_ble_eq_true rfl⟩ d_X1_growKnot_209 ?_
      refine j_aload_n rfl d_X1_growKnot_212 rfl ?_
      refine j_iload_n rfl d_X1_growKnot_213 rfl ?_
      refine j_aload d_X1_growKnot_214 rfl ?_
      refine tp_chk (fun ht24 => ?_)
      refine j_getr fl_Grower_166 ht24 (fam_7_7 _ ht24).1 d_X1_growKnot_216 ?_
      refine j_iload_n rfl d_X1_growKnot_219 rfl ?_
      refine j_aload d_X1_growKnot_220 rfl ?_
      refine j_geti fl_Grower_171 ht24 d_X1_growKnot_222 ?_
      refine j_imul d_X1_growKnot_225 ?_
      refine j_iload d_X1_growKnot_226 rfl ?_
      refine j_bind (fun r25 h26 => ?_)
      refine j_callV (y := y_X1_branch) (I' := i_X1_branch) (avs := [.inl x1, .inr (.inr (r18 + 2)), .inl (tp_w (x3 * (r22 r18 3))), .inl x6]) (c := 278) (st := []) (hbr x1 (r18 + 2) (tp_w (x3 * (r22 r18 3))) x6 r22 r25 h26) cs_Grower_73 wd_642 wd_644 ws_17 tg_278 rfl rfl rfl (Nat.le_of_ble_eq_true rfl) ⟨rfl, rfl⟩ ⟨by show d + 1 ≤ d + 8; omega, by show 8 + (9 + 11) + 60 * (d) ≤ 60 * (d + 8); omega⟩ ⟨Nat.le_of_ble_eq_true rfl, Nat.le_of_ble_eq_true rfl⟩ d_X1_growKnot_228 ?_
      exact j_wk [true, true, false, true, false, true, true, true, false] rfl rfl (To_X1_growKnot_231 G br d hbr rec_171 x1 x3 x5 x6 x7 r25 hrec_171 hg_x5)
def fo_X1_growKnot_171 (br : Int → Int → Int → Int → tp_M → Option tp_M) (x1 : Int) (x3 : Int) (x5 : Int) (x6 : Int) (x7 : Int) (M0 : tp_M) : Option (tp_M) := tp_lp (σ := Int × tp_M) (fun rec_ u => fo_X1_growKnot_171B br x1 x3 x5 x6 (fun x7' M0' => rec_ (x7', M0')) u.1 u.2) tp_N (x7, M0)
set_option maxHeartbeats 4000000 in
set_option maxRecDepth 100000 in
theorem To_X1_growKnot_171 (G : tp_G) (br : Int → Int → Int → Int → tp_M → Option tp_M) (d : Nat) (hbr : ∀ (a0 a1 a2 a3 : Int) (M r : tp_M), br a0 a1 a2 a3 M = some r → ∀ l, Met l y_X1_branch (tp_ws y_X1_branch i_X1_branch) (tp_rm d) (tp_Pc G [.inr (.inr 278), .inl a0, .inr (.inr a1), .inl a2, .inl a3] tp_NC (tp_st M)) (tp_Q G (o_X1_branch r)) 0 0 (tp_A G)) (x1 : Int) (x3 : Int) (x5 : Int) (x6 : Int) (x7 : Int) (M0 : tp_M) (hg_x5 : tp_tg x5 = 2) : tp_J i_X1_growKnot (tp_rm (d + 8)) G 0 0 o_X1_growKnot tp_NC (tp_st M0) 0 0 [some (.inr (.inr 278)), some (.inl x1), none, some (.inl x3), none, some (.inr (.inr x5)), some (.inl x6), some (.inl x7), none] 171 [] (fo_X1_growKnot_171 br x1 x3 x5 x6 x7 M0) := by
  unfold fo_X1_growKnot_171
  exact j_lp (σ := Int × tp_M) (n' := fun _ => tp_NC) (g' := fun u => tp_st u.2) (k' := fun _ => 0) (q' := fun _ => 0) (lv' := fun u => [some (.inr (.inr 278)), some (.inl x1), none, some (.inl x3), none, some (.inr (.inr x5)), some (.inl x6), some (.inl u.1), none]) (fun rec_ hrec u => To_X1_growKnot_171B G br d hbr x1 x3 x5 x6 hg_x5 (fun x7' M0' => rec_ (x7', M0')) (fun x7' M0' => hrec (x7', M0')) u.1 u.2) tp_N (x7, M0)
def fo_X1_growKnot_168 (br : Int → Int → Int → Int → tp_M → Option tp_M) (x1 : Int) (x3 : Int) (x5 : Int) (x6 : Int) (M0 : tp_M) : Option (tp_M) :=
  fo_X1_growKnot_171 br x1 x3 x5 x6 0 M0
set_option maxHeartbeats 4000000 in
set_option maxRecDepth 100000 in
theorem To_X1_growKnot_168 (G : tp_G) (br : Int → Int → Int → Int → tp_M → Option tp_M) (d : Nat) (hbr : ∀ (a0 a1 a2 a3 : Int) (M r : tp_M), br a0 a1 a2 a3 M = some r → ∀ l, Met l y_X1_branch (tp_ws y_X1_branch i_X1_branch) (tp_rm d) (tp_Pc G [.inr (.inr 278), .inl a0, .inr (.inr a1), .inl a2, .inl a3] tp_NC (tp_st M)) (tp_Q G (o_X1_branch r)) 0 0 (tp_A G)) (x1 : Int) (x3 : Int) (x5 : Int) (x6 : Int) (M0 : tp_M) (hg_x5 : tp_tg x5 = 2) : tp_J i_X1_growKnot (tp_rm (d + 8)) G 0 0 o_X1_growKnot tp_NC (tp_st M0) 0 0 [some (.inr (.inr 278)), some (.inl x1), none, some (.inl x3), none, some (.inr (.inr x5)), some (.inl x6), none, none] 168 [] (fo_X1_growKnot_168 br x1 x3 x5 x6 M0) := by
  unfold fo_X1_growKnot_168
  refine j_iconst ⟨by decide, by decide⟩ d_X1_growKnot_168 ?_
  refine j_istore (lv' := [some (.inr (.inr 278)), some (.inl x1), none, some (.inl x3), none, some (.inr (.inr x5)), some (.inl x6), some (.inl 0), none]) d_X1_growKnot_169 (Nat.le_of_ble_eq_true rfl) rfl ?_
  exact j_wk [true, true, false, true, false, true, true, true, false] rfl rfl (To_X1_growKnot_171 G br d hbr x1 x3 x5 x6 0 M0 hg_x5)
def fo_X1_growKnot_146 (br : Int → Int → Int → Int → tp_M → Option tp_M) (x1 : Int) (x3 : Int) (x5 : Int) (x6 : Int) (M0 : tp_M) : Option (tp_M) :=
  if ¬ (M0 x5 4) = 1 then
    fo_X1_growKnot_168 br x1 x3 x5 x6 M0
  else
    (f_X9_addLeaf 1 x3 1 x3 x6 M0).bind fun r27 =>
    fo_X1_growKnot_168 br x1 x3 x5 x6 r27
set_option maxHeartbeats 4000000 in
set_option maxRecDepth 100000 in
theorem To_X1_growKnot_146 (G : tp_G) (br : Int → Int → Int → Int → tp_M → Option tp_M) (d : Nat) (hbr : ∀ (a0 a1 a2 a3 : Int) (M r : tp_M), br a0 a1 a2 a3 M = some r → ∀ l, Met l y_X1_branch (tp_ws y_X1_branch i_X1_branch) (tp_rm d) (tp_Pc G [.inr (.inr 278), .inl a0, .inr (.inr a1), .inl a2, .inl a3] tp_NC (tp_st M)) (tp_Q G (o_X1_branch r)) 0 0 (tp_A G)) (x1 : Int) (x3 : Int) (x5 : Int) (x6 : Int) (M0 : tp_M) (hg_x5 : tp_tg x5 = 2) : tp_J i_X1_growKnot (tp_rm (d + 8)) G 0 0 o_X1_growKnot tp_NC (tp_st M0) 0 0 [some (.inr (.inr 278)), some (.inl x1), none, some (.inl x3), none, some (.inr (.inr x5)), some (.inl x6), none, none] 146 [] (fo_X1_growKnot_146 br x1 x3 x5 x6 M0) := by
  unfold fo_X1_growKnot_146
  refine j_aload d_X1_growKnot_146 rfl ?_
  refine j_geti fl_Grower_159 hg_x5 d_X1_growKnot_148 ?_
  refine j_iconst ⟨by decide, by decide⟩ d_X1_growKnot_151 ?_
  refine j_icmp_ne (tgt := 168) d_X1_growKnot_152 (by decide) (fun h16 => ?_) (fun h16 => ?_)
  · exact j_wk [true, true, false, true, false, true, true, false, false] rfl rfl (To_X1_growKnot_168 G br d hbr x1 x3 x5 x6 M0 hg_x5)
  · refine j_aload_n rfl d_X1_growKnot_155 rfl ?_
    refine j_getr fl_Grower_57 tg_278 rv_278_1 d_X1_growKnot_156 ?_
    refine j_iconst ⟨by decide, by decide⟩ d_X1_growKnot_159 ?_
    refine j_iload_n rfl d_X1_growKnot_160 rfl ?_
    refine j_iconst ⟨by decide, by decide⟩ d_X1_growKnot_161 ?_
    refine j_iload_n rfl d_X1_growKnot_162 rfl ?_
    refine j_iload d_X1_growKnot_163 rfl ?_
    refine j_bind (fun r27 h28 => ?_)
    refine j_callV (y := y_X9_addLeaf) (I' := i_X9_addLeaf) (avs := [.inl 1, .inl x3, .inl 1, .inl x3, .inl x6]) (c := 41) (st := []) (c_X9_addLeaf G 1 x3 1 x3 x6 M0 r27 h28) cs_Grower_104 wd_647 wd_648 wd_649 tg_41 rfl rfl rfl (Nat.le_of_ble_eq_true rfl) ⟨rfl, rfl⟩ ⟨by show 1 + 1 ≤ d + 8; omega, by show 8 + (7 + 11) + 60 * (1) ≤ 60 * (d + 8); omega⟩ ⟨Nat.le_of_ble_eq_true rfl, Nat.le_of_ble_eq_true rfl⟩ d_X1_growKnot_165 ?_
    exact j_wk [true, true, false, true, false, true, true, false, false] rfl rfl (To_X1_growKnot_168 G br d hbr x1 x3 x5 x6 r27 hg_x5)
def fo_X1_growKnot_85B (br : Int → Int → Int → Int → tp_M → Option tp_M) (x1 : Int) (x3 : Int) (x5 : Int) (x6 : Int) (rec_85 : Int → tp_M → Option (tp_M)) (x7 : Int) (M0 : tp_M) : Option (tp_M) :=
  if tp_tg x5 = 2 then
    if (M0 x5 7) ≤ x7 then
      if (M0 x5 4) < 2 then
        fo_X1_growKnot_146 br x1 x3 x5 x6 M0
      else
        (f_X9_addLeaf 4 0 0 (tp_w ((M0 x5 4) * x3)) x6 M0).bind fun r29 =>
        fo_X1_growKnot_146 br x1 x3 x5 x6 r29
    else
      (f_X9_sideAt x6 x7 M0).bind fun r31 =>
      (f_X1_writeResidual x5 r31 M0).bind fun r33 =>
      tp_lt (tp_w (x7 + 1)) fun y35 =>
      rec_85 y35 r33 else none
set_option maxHeartbeats 4000000 in
set_option maxRecDepth 100000 in
theorem To_X1_growKnot_85B (G : tp_G) (br : Int → Int → Int → Int → tp_M → Option tp_M) (d : Nat) (hbr : ∀ (a0 a1 a2 a3 : Int) (M r : tp_M), br a0 a1 a2 a3 M = some r → ∀ l, Met l y_X1_branch (tp_ws y_X1_branch i_X1_branch) (tp_rm d) (tp_Pc G [.inr (.inr 278), .inl a0, .inr (.inr a1), .inl a2, .inl a3] tp_NC (tp_st M)) (tp_Q G (o_X1_branch r)) 0 0 (tp_A G)) (x1 : Int) (x3 : Int) (x5 : Int) (x6 : Int) (rec_85 : Int → tp_M → Option (tp_M)) (hrec_85 : ∀ (x7' : Int) (M' : tp_M), tp_J i_X1_growKnot (tp_rm (d + 8)) G 0 0 o_X1_growKnot tp_NC (tp_st M') 0 0 [some (.inr (.inr 278)), some (.inl x1), none, some (.inl x3), none, some (.inr (.inr x5)), some (.inl x6), some (.inl (x7')), none] 85 [] (rec_85 x7' M')) (x7 : Int) (M0 : tp_M) : tp_J i_X1_growKnot (tp_rm (d + 8)) G 0 0 o_X1_growKnot tp_NC (tp_st M0) 0 0 [some (.inr (.inr 278)), some (.inl x1), none, some (.inl x3), none, some (.inr (.inr x5)), some (.inl x6), some (.inl x7), none] 85 [] (fo_X1_growKnot_85B br x1 x3 x5 x6 rec_85 x7 M0) := by
  unfold fo_X1_growKnot_85B
  refine j_iload d_X1_growKnot_85 rfl ?_
  refine j_aload d_X1_growKnot_87 rfl ?_
  refine tp_chk (fun ht13 => ?_)
  refine j_geti fl_Grower_146 ht13 d_X1_growKnot_89 ?_
  refine j_icmp_ge (tgt := 118) d_X1_growKnot_92 (by decide) (fun h14 => ?_) (fun h14 => ?_)
  · refine j_aload d_X1_growKnot_118 rfl ?_
    refine j_geti fl_Grower_159 ht13 d_X1_growKnot_120 ?_
    refine j_iconst ⟨by decide, by decide⟩ d_X1_growKnot_123 ?_
    refine j_icmp_lt (tgt := 146) d_X1_growKnot_124 (by decide) (fun h15 => ?_) (fun h15 => ?_)
    · exact j_wk [true, true, false, true, false, true, true, false, false] rfl rfl (To_X1_growKnot_146 G br d hbr x1 x3 x5 x6 M0 ht13)
    · refine j_aload_n rfl d_X1_growKnot_127 rfl ?_
      refine j_getr fl_Grower_57 tg_278 rv_278_1 d_X1_growKnot_128 ?_
      refine j_iconst ⟨by decide, by decide⟩ d_X1_growKnot_131 ?_
      refine j_iconst ⟨by decide, by decide⟩ d_X1_growKnot_132 ?_
      refine j_iconst ⟨by decide, by decide⟩ d_X1_growKnot_133 ?_
      refine j_aload d_X1_growKnot_134 rfl ?_
      refine j_geti fl_Grower_159 ht13 d_X1_growKnot_136 ?_
      refine j_iload_n rfl d_X1_growKnot_139 rfl ?_
      refine j_imul d_X1_growKnot_140 ?_
      refine j_iload d_X1_growKnot_141 rfl ?_
      refine j_bind (fun r29 h30 => ?_)
      refine j_callV (y := y_X9_addLeaf) (I' := i_X9_addLeaf) (avs := [.inl 4, .inl 0, .inl 0, .inl (tp_w ((M0 x5 4) * x3)), .inl x6]) (c := 41) (st := []) (c_X9_addLeaf G 4 0 0 (tp_w ((M0 x5 4) * x3)) x6 M0 r29 h30) cs_Grower_104 wd_647 wd_648 wd_649 tg_41 rfl rfl rfl (Nat.le_of_ble_eq_true rfl) ⟨rfl, rfl⟩ ⟨by show 1 + 1 ≤ d + 8; omega, by show 8 + (7 + 11) + 60 * (1) ≤ 60 * (d + 8); omega⟩ ⟨Nat.le_of_ble_eq_true rfl, Nat.le_of_ble_eq_true rfl⟩ d_X1_growKnot_143 ?_
      exact j_wk [true, true, false, true, false, true, true, false, false] rfl rfl (To_X1_growKnot_146 G br d hbr x1 x3 x5 x6 r29 ht13)
  · refine j_aload_n rfl d_X1_growKnot_95 rfl ?_
    refine j_aload d_X1_growKnot_96 rfl ?_
    refine j_aload_n rfl d_X1_growKnot_98 rfl ?_
    refine j_getr fl_Grower_57 tg_278 rv_278_1 d_X1_growKnot_99 ?_
    refine j_iload d_X1_growKnot_102 rfl ?_
    refine j_iload d_X1_growKnot_104 rfl ?_
    refine j_bind (fun r31 h32 => ?_)
    refine j_callV (y := y_X9_sideAt) (I' := i_X9_sideAt) (avs := [.inl x6, .inl x7]) (c := 41) (st := [.inr (.inr x5), .inr (.inr 278)]) (c_X9_sideAt G x6 x7 M0 r31 h32) cs_Grower_151 wd_772 wd_773 wd_774 tg_41 rfl rfl rfl (Nat.le_of_ble_eq_true rfl) ⟨rfl, rfl⟩ ⟨by show 1 + 1 ≤ d + 8; omega, by show 8 + (5 + 11) + 60 * (1) ≤ 60 * (d + 8); omega⟩ ⟨Nat.le_of_ble_eq_true rfl, Nat.le_of_ble_eq_true rfl⟩ d_X1_growKnot_106 ?_
    refine j_bind (fun r33 h34 => ?_)
    refine j_callV (y := y_X1_writeResidual) (I' := i_X1_writeResidual) (avs := [.inr (.inr x5), .inr (.inr r31)]) (c := 278) (st := []) (c_X1_writeResidual G x5 r31 M0 r33 h34) cs_Grower_155 wd_776 wd_778 ws_27 tg_278 rfl rfl rfl (Nat.le_of_ble_eq_true rfl) ⟨rfl, rfl⟩ ⟨by show 3 + 1 ≤ d + 8; omega, by show 8 + (6 + 11) + 60 * (3) ≤ 60 * (d + 8); omega⟩ ⟨Nat.le_of_ble_eq_true rfl, Nat.le_of_ble_eq_true rfl⟩ d_X1_growKnot_109 ?_
    refine j_iincN (lv' := fun y35 => [some (.inr (.inr 278)), some (.inl x1), none, some (.inl x3), none, some (.inr (.inr x5)), some (.inl x6), some (.inl y35), none]) d_X1_growKnot_112 rfl (Nat.le_of_ble_eq_true rfl) (fun _ => rfl) (fun y35 hy35 => ?_)
    refine j_goto (tgt := 85) d_X1_growKnot_115 (by decide) ?_
    exact j_wk [true, true, false, true, false, true, true, true, false] rfl rfl (hrec_85 y35 r33)
def fo_X1_growKnot_85 (br : Int → Int → Int → Int → tp_M → Option tp_M) (x1 : Int) (x3 : Int) (x5 : Int) (x6 : Int) (x7 : Int) (M0 : tp_M) : Option (tp_M) := tp_lp (σ := Int × tp_M) (fun rec_ u => fo_X1_growKnot_85B br x1 x3 x5 x6 (fun x7' M0' => rec_ (x7', M0')) u.1 u.2) tp_N (x7, M0)
set_option maxHeartbeats 4000000 in
set_option maxRecDepth 100000 in
theorem To_X1_growKnot_85 (G : tp_G) (br : Int → Int → Int → Int → tp_M → Option tp_M) (d : Nat) (hbr : ∀ (a0 a1 a2 a3 : Int) (M r : tp_M), br a0 a1 a2 a3 M = some r → ∀ l, Met l y_X1_branch (tp_ws y_X1_branch i_X1_branch) (tp_rm d) (tp_Pc G [.inr (.inr 278), .inl a0, .inr (.inr a1), .inl a2, .inl a3] tp_NC (tp_st M)) (tp_Q G (o_X1_branch r)) 0 0 (tp_A G)) (x1 : Int) (x3 : Int) (x5 : Int) (x6 : Int) (x7 : Int) (M0 : tp_M) : tp_J i_X1_growKnot (tp_rm (d + 8)) G 0 0 o_X1_growKnot tp_NC (tp_st M0) 0 0 [some (.inr (.inr 278)), some (.inl x1), none, some (.inl x3), none, some (.inr (.inr x5)), some (.inl x6), some (.inl x7), none] 85 [] (fo_X1_growKnot_85 br x1 x3 x5 x6 x7 M0) := by
  unfold fo_X1_growKnot_85
  exact j_lp (σ := Int × tp_M) (n' := fun _ => tp_NC) (g' := fun u => tp_st u.2) (k' := fun _ => 0) (q' := fun _ => 0) (lv' := fun u => [some (.inr (.inr 278)), some (.inl x1), none, some (.inl x3), none, some (.inr (.inr x5)), some (.inl x6), some (.inl u.1), none]) (fun rec_ hrec u => To_X1_growKnot_85B G br d hbr x1 x3 x5 x6 (fun x7' M0' => rec_ (x7', M0')) (fun x7' M0' => hrec (x7', M0')) u.1 u.2) tp_N (x7, M0)
def fo_X1_growKnot_61 (br : Int → Int → Int → Int → tp_M → Option tp_M) (x1 : Int) (x3 : Int) (x5 : Int) (x6 : Int) (M0 : tp_M) : Option (tp_M) :=
  (f_X5_enterKnot x5 M0).bind fun r7 =>
  (f_X1_findPoints x5 r7).bind fun r9 =>
  (f_X1_findSides x5 r9).bind fun r11 =>
  fo_X1_growKnot_85 br x1 x3 x5 x6 0 r11
set_option maxHeartbeats 4000000 in
set_option maxRecDepth 100000 in
theorem To_X1_growKnot_61 (G : tp_G) (br : Int → Int → Int → Int → tp_M → Option tp_M) (d : Nat) (hbr : ∀ (a0 a1 a2 a3 : Int) (M r : tp_M), br a0 a1 a2 a3 M = some r → ∀ l, Met l y_X1_branch (tp_ws y_X1_branch i_X1_branch) (tp_rm d) (tp_Pc G [.inr (.inr 278), .inl a0, .inr (.inr a1), .inl a2, .inl a3] tp_NC (tp_st M)) (tp_Q G (o_X1_branch r)) 0 0 (tp_A G)) (x1 : Int) (x3 : Int) (x5 : Int) (x6 : Int) (M0 : tp_M) : tp_J i_X1_growKnot (tp_rm (d + 8)) G 0 0 o_X1_growKnot tp_NC (tp_st M0) 0 0 [some (.inr (.inr 278)), some (.inl x1), none, some (.inl x3), none, some (.inr (.inr x5)), some (.inl x6), none, none] 61 [] (fo_X1_growKnot_61 br x1 x3 x5 x6 M0) := by
  unfold fo_X1_growKnot_61
  refine j_aload_n rfl d_X1_growKnot_61 rfl ?_
  refine j_getr fl_Grower_12 tg_278 rv_278_2 d_X1_growKnot_62 ?_
  refine j_aload d_X1_growKnot_65 rfl ?_
  refine j_bind (fun r7 h8 => ?_)
  refine j_callV (y := y_X5_enterKnot) (I' := i_X5_enterKnot) (avs := [.inr (.inr x5)]) (c := 279) (st := []) (c_X5_enterKnot G x5 M0 r7 h8) cs_Grower_137 wd_693 wd_694 wd_695 tg_279 rfl rfl rfl (Nat.le_of_ble_eq_true rfl) ⟨rfl, rfl⟩ ⟨by show 1 + 1 ≤ d + 8; omega, by show 8 + (2 + 11) + 60 * (1) ≤ 60 * (d + 8); omega⟩ ⟨Nat.le_of_ble_eq_true rfl, Nat.le_of_ble_eq_true rfl⟩ d_X1_growKnot_67 ?_
  refine j_aload_n rfl d_X1_growKnot_70 rfl ?_
  refine j_aload d_X1_growKnot_71 rfl ?_
  refine j_bind (fun r9 h10 => ?_)
  refine j_callV (y := y_X1_findPoints) (I' := i_X1_findPoints) (avs := [.inr (.inr x5)]) (c := 278) (st := []) (c_X1_findPoints G x5 r7 r9 h10) cs_Grower_140 wd_698 wd_700 ws_22 tg_278 rfl rfl rfl (Nat.le_of_ble_eq_true rfl) ⟨rfl, rfl⟩ ⟨by show 3 + 1 ≤ d + 8; omega, by show 8 + (5 + 11) + 60 * (3) ≤ 60 * (d + 8); omega⟩ ⟨Nat.le_of_ble_eq_true rfl, Nat.le_of_ble_eq_true rfl⟩ d_X1_growKnot_73 ?_
  refine j_aload_n rfl d_X1_growKnot_76 rfl ?_
  refine j_aload d_X1_growKnot_77 rfl ?_
  refine j_bind (fun r11 h12 => ?_)
  refine j_callV (y := y_X1_findSides) (I' := i_X1_findSides) (avs := [.inr (.inr x5)]) (c := 278) (st := []) (c_X1_findSides G x5 r9 r11 h12) cs_Grower_143 wd_737 wd_739 ws_25 tg_278 rfl rfl rfl (Nat.le_of_ble_eq_true rfl) ⟨rfl, rfl⟩ ⟨by show 3 + 1 ≤ d + 8; omega, by show 8 + (6 + 11) + 60 * (3) ≤ 60 * (d + 8); omega⟩ ⟨Nat.le_of_ble_eq_true rfl, Nat.le_of_ble_eq_true rfl⟩ d_X1_growKnot_79 ?_
  refine j_iconst ⟨by decide, by decide⟩ d_X1_growKnot_82 ?_
  refine j_istore (lv' := [some (.inr (.inr 278)), some (.inl x1), none, some (.inl x3), none, some (.inr (.inr x5)), some (.inl x6), some (.inl 0), none]) d_X1_growKnot_83 (Nat.le_of_ble_eq_true rfl) rfl ?_
  exact j_wk [true, true, false, true, false, true, true, true, false] rfl rfl (To_X1_growKnot_85 G br d hbr x1 x3 x5 x6 0 r11)
def fo_X1_growKnot_22 (br : Int → Int → Int → Int → tp_M → Option tp_M) (x1 : Int) (x3 : Int) (s0 : Int) (M0 : tp_M) : Option (tp_M) :=
  if s0 = -1 then
    some M0
  else
    tp_lt ((tp_w ((M0 41 2) - 1))) fun y3 =>
    if ¬ x1 = 1 then
      (f_X1_writeKey s0 M0).bind fun r5 =>
      fo_X1_growKnot_61 br x1 x3 s0 y3 r5
    else
      (f_X1_writeFirstKey s0 M0).bind fun r36 =>
      fo_X1_growKnot_61 br x1 x3 s0 y3 r36
set_option maxHeartbeats 4000000 in
set_option maxRecDepth 100000 in
theorem To_X1_growKnot_22 (G : tp_G) (br : Int → Int → Int → Int → tp_M → Option tp_M) (d : Nat) (hbr : ∀ (a0 a1 a2 a3 : Int) (M r : tp_M), br a0 a1 a2 a3 M = some r → ∀ l, Met l y_X1_branch (tp_ws y_X1_branch i_X1_branch) (tp_rm d) (tp_Pc G [.inr (.inr 278), .inl a0, .inr (.inr a1), .inl a2, .inl a3] tp_NC (tp_st M)) (tp_Q G (o_X1_branch r)) 0 0 (tp_A G)) (x1 : Int) (x3 : Int) (s0 : Int) (M0 : tp_M) : tp_J i_X1_growKnot (tp_rm (d + 8)) G 0 0 o_X1_growKnot tp_NC (tp_st M0) 0 0 [some (.inr (.inr 278)), some (.inl x1), none, some (.inl x3), none, none, none, none, none] 22 [.inr (.inr s0)] (fo_X1_growKnot_22 br x1 x3 s0 M0) := by
  unfold fo_X1_growKnot_22
  refine j_astore (lv' := [some (.inr (.inr 278)), some (.inl x1), none, some (.inl x3), none, some (.inr (.inr s0)), none, none, none]) d_X1_growKnot_22 (Nat.le_of_ble_eq_true rfl) rfl ?_
  refine j_aload d_X1_growKnot_24 rfl ?_
  refine j_ifnonnull (tgt := 30) d_X1_growKnot_26 (by decide) (fun h2 => ?_) (fun h2 => ?_)
  · exact j_vret d_X1_growKnot_29 rfl rfl ⟨rfl, rfl⟩
  · refine j_aload_n rfl d_X1_growKnot_30 rfl ?_
    refine j_getr fl_Grower_57 tg_278 rv_278_1 d_X1_growKnot_31 ?_
    refine j_geti fl_Grower_127 tg_41 d_X1_growKnot_34 ?_
    refine j_iconst ⟨by decide, by decide⟩ d_X1_growKnot_37 ?_
    refine j_isub d_X1_growKnot_38 ?_
    refine j_nmI (fun y3 hy3 => ?_)
    refine j_istore (lv' := [some (.inr (.inr 278)), some (.inl x1), none, some (.inl x3), none, some (.inr (.inr s0)), some (.inl y3), none, none]) d_X1_growKnot_39 (Nat.le_of_ble_eq_true rfl) rfl ?_
    refine j_iload_n rfl d_X1_growKnot_41 rfl ?_
    refine j_iconst ⟨by decide, by decide⟩ d_X1_growKnot_42 ?_
    refine j_icmp_ne (tgt := 55) d_X1_growKnot_43 (by decide) (fun h4 => ?_) (fun h4 => ?_)
    · refine j_aload_n rfl d_X1_growKnot_55 rfl ?_
      refine j_aload d_X1_growKnot_56 rfl ?_
      refine j_bind (fun r5 h6 => ?_)
      refine j_callV (y := y_X1_writeKey) (I' := i_X1_writeKey) (avs := [.inr (.inr s0)]) (c := 278) (st := []) (c_X1_writeKey G s0 M0 r5 h6) cs_Grower_134 wd_674 wd_676 ws_20 tg_278 rfl rfl rfl (Nat.le_of_ble_eq_true rfl) ⟨rfl, rfl⟩ ⟨by show 3 + 1 ≤ d + 8; omega, by show 8 + (5 + 11) + 60 * (3) ≤ 60 * (d + 8); omega⟩ ⟨Nat.le_of_ble_eq_true rfl, Nat.le_of_ble_eq_true rfl⟩ d_X1_growKnot_58 ?_
      exact j_wk [true, true, false, true, false, true, true, false, false] rfl rfl (To_X1_growKnot_61 G br d hbr x1 x3 s0 y3 r5)
    · refine j_aload_n rfl d_X1_growKnot_46 rfl ?_
      refine j_aload d_X1_growKnot_47 rfl ?_
      refine j_bind (fun r36 h37 => ?_)
      refine j_callV (y := y_X1_writeFirstKey) (I' := i_X1_writeFirstKey) (avs := [.inr (.inr s0)]) (c := 278) (st := []) (c_X1_writeFirstKey G s0 M0 r36 h37) cs_Grower_130 wd_670 wd_672 ws_19 tg_278 rfl rfl rfl (Nat.le_of_ble_eq_true rfl) ⟨rfl, rfl⟩ ⟨by show 1 + 1 ≤ d + 8; omega, by show 8 + (2 + 11) + 60 * (1) ≤ 60 * (d + 8); omega⟩ ⟨Nat.le_of_ble_eq_true rfl, Nat.le_of_ble_eq_true rfl⟩ d_X1_growKnot_49 ?_
      refine j_goto (tgt := 61) d_X1_growKnot_52 (by decide) ?_
      exact j_wk [true, true, false, true, false, true, true, false, false] rfl rfl (To_X1_growKnot_61 G br d hbr x1 x3 s0 y3 r36)
def fo_X1_growKnot (br : Int → Int → Int → Int → tp_M → Option tp_M) (a0 : Int) (a1 : Int) (a2 : Int) (a3 : Int) (M0 : tp_M) : Option (tp_M) :=
  if 6 < a0 then
    fo_X1_growKnot_22 br a0 a2 (-1) M0
  else
    (f_X9_addKnot a0 a1 a2 a3 M0).bind fun r38 =>
    fo_X1_growKnot_22 br a0 a2 r38.1 r38.2
set_option maxHeartbeats 4000000 in
set_option maxRecDepth 100000 in
theorem To_X1_growKnot (G : tp_G) (br : Int → Int → Int → Int → tp_M → Option tp_M) (d : Nat) (hbr : ∀ (a0 a1 a2 a3 : Int) (M r : tp_M), br a0 a1 a2 a3 M = some r → ∀ l, Met l y_X1_branch (tp_ws y_X1_branch i_X1_branch) (tp_rm d) (tp_Pc G [.inr (.inr 278), .inl a0, .inr (.inr a1), .inl a2, .inl a3] tp_NC (tp_st M)) (tp_Q G (o_X1_branch r)) 0 0 (tp_A G)) (a0 : Int) (a1 : Int) (a2 : Int) (a3 : Int) (M0 : tp_M) : tp_J i_X1_growKnot (tp_rm (d + 8)) G 0 0 o_X1_growKnot tp_NC (tp_st M0) 0 0 [some (.inr (.inr 278)), some (.inl a0), some (.inl a1), some (.inl a2), some (.inl a3), none, none, none, none] 0 [] (fo_X1_growKnot br a0 a1 a2 a3 M0) := by
  unfold fo_X1_growKnot
  refine j_iload_n rfl d_X1_growKnot_0 rfl ?_
  refine j_bipush ⟨by decide, by decide⟩ (by decide +kernel) d_X1_growKnot_1 ?_
  refine j_icmp_gt (tgt := 21) d_X1_growKnot_3 (by decide) (fun h1 => ?_) (fun h1 => ?_)
  · refine j_null d_X1_growKnot_21 ?_
    exact j_wk [true, true, false, true, false, false, false, false, false] rfl rfl (To_X1_growKnot_22 G br d hbr a0 a2 (-1) M0)
  · refine j_aload_n rfl d_X1_growKnot_6 rfl ?_
    refine j_getr fl_Grower_57 tg_278 rv_278_1 d_X1_growKnot_7 ?_
    refine j_iload_n rfl d_X1_growKnot_10 rfl ?_
    refine j_iload_n rfl d_X1_growKnot_11 rfl ?_
    refine j_iload_n rfl d_X1_growKnot_12 rfl ?_
    refine j_iload d_X1_growKnot_13 rfl ?_
    refine j_bind (fun r38 h39 => ?_)
    refine j_callV (y := y_X9_addKnot) (I' := i_X9_addKnot) (avs := [.inl a0, .inl a1, .inl a2, .inl a3]) (c := 41) (st := []) (c_X9_addKnot G a0 a1 a2 a3 M0 r38 h39) cs_Grower_123 wd_660 wd_661 wd_662 tg_41 rfl rfl rfl (Nat.le_of_ble_eq_true rfl) ⟨rfl, rfl⟩ ⟨by show 1 + 1 ≤ d + 8; omega, by show 8 + (6 + 11) + 60 * (1) ≤ 60 * (d + 8); omega⟩ ⟨Nat.le_of_ble_eq_true rfl, Nat.le_of_ble_eq_true rfl⟩ d_X1_growKnot_15 ?_
    refine j_goto (tgt := 22) d_X1_growKnot_18 (by decide) ?_
    exact j_wk [true, true, false, true, false, false, false, false, false] rfl rfl (To_X1_growKnot_22 G br d hbr a0 a2 r38.1 r38.2)
set_option maxHeartbeats 4000000 in
set_option maxRecDepth 100000 in
theorem co_X1_growKnot (G : tp_G) (br : Int → Int → Int → Int → tp_M → Option tp_M) (d : Nat) (hbr : ∀ (a0 a1 a2 a3 : Int) (M r : tp_M), br a0 a1 a2 a3 M = some r → ∀ l, Met l y_X1_branch (tp_ws y_X1_branch i_X1_branch) (tp_rm d) (tp_Pc G [.inr (.inr 278), .inl a0, .inr (.inr a1), .inl a2, .inl a3] tp_NC (tp_st M)) (tp_Q G (o_X1_branch r)) 0 0 (tp_A G)) (a0 : Int) (a1 : Int) (a2 : Int) (a3 : Int) (M0 : tp_M) (r : tp_M) (h : fo_X1_growKnot br a0 a1 a2 a3 M0 = some r) (l : Launch) : Met l y_X1_growKnot (tp_ws y_X1_growKnot i_X1_growKnot) (tp_rm (d + 8)) (tp_Pc G [.inr (.inr 278), .inl a0, .inl a1, .inl a2, .inl a3] tp_NC (tp_st M0)) (tp_Q G (o_X1_growKnot r)) 0 0 (tp_A G) :=
  tp_met (I := i_X1_growKnot) (y := y_X1_growKnot) (by decide +kernel) (Eq.refl "TypesAtPrime$Grower") (Eq.refl "growKnot") (lv := [some (.inr (.inr 278)), some (.inl a0), some (.inl a1), some (.inl a2), some (.inl a3), none, none, none, none]) rfl (Nat.le_of_ble_eq_true rfl) (To_X1_growKnot G br d hbr a0 a1 a2 a3 M0) h l
def tp_br : Nat → Int → Int → Int → Int → tp_M → Option tp_M
  | 0, _, _, _, _, _ => none
  | n + 1, a0, a1, a2, a3, M => fo_X1_branch (fo_X1_growKnot (tp_br n)) a0 a1 a2 a3 M
theorem c_br (G : tp_G) : ∀ (n : Nat) (a0 a1 a2 a3 : Int) (M r : tp_M), tp_br n a0 a1 a2 a3 M = some r → ∀ l, Met l y_X1_branch (tp_ws y_X1_branch i_X1_branch) (tp_rm (16 * n)) (tp_Pc G [.inr (.inr 278), .inl a0, .inr (.inr a1), .inl a2, .inl a3] tp_NC (tp_st M)) (tp_Q G (o_X1_branch r)) 0 0 (tp_A G)
  | 0, _, _, _, _, _, _, h => by cases h
  | n + 1, a0, a1, a2, a3, M, r, h => co_X1_branch G (fo_X1_growKnot (tp_br n)) (16 * n + 8) (co_X1_growKnot G (tp_br n) (16 * n) (c_br G n)) a0 a1 a2 a3 M r h
def f_X1_branch (a0 a1 a2 a3 : Int) (M : tp_M) : Option tp_M := tp_br 7 a0 a1 a2 a3 M
theorem c_X1_branch (G : tp_G) (a0 a1 a2 a3 : Int) (M r : tp_M) (h : f_X1_branch a0 a1 a2 a3 M = some r) (l : Launch) : Met l y_X1_branch (tp_ws y_X1_branch i_X1_branch) (tp_rm 112) (tp_Pc G [.inr (.inr 278), .inl a0, .inr (.inr a1), .inl a2, .inl a3] tp_NC (tp_st M)) (tp_Q G (o_X1_branch r)) 0 0 (tp_A G) := c_br G 7 a0 a1 a2 a3 M r h l
