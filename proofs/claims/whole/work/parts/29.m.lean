theorem wd_1363 : (.code ⟨"TypesAtPrimeModel", "measures", "()V"⟩ prog_13_method_33_code 2 (none : Option Jvm.ClassFile.FieldType) : Cond) ∈ lw_tbl := List.mem_append_right _ (List.mem_of_getElem? (i := 1363) (by decide +kernel))
theorem cs_Model_275 : tp_CS "TypesAtPrimeModel" 275 y_X11_measures i_X11_measures 0 := ⟨wd_1363, wd_12, by decide, by decide, by decide +kernel⟩
theorem wd_1360 : (.methodLink "TypesAtPrimeModel" 275 ⟨"TypesAtPrimeModel", "measures", "()V"⟩ : Cond) ∈ lw_tbl := List.mem_append_right _ (List.mem_of_getElem? (i := 1360) (by decide +kernel))
theorem wd_1362 : (.instanceMethod ⟨"TypesAtPrimeModel", "measures", "()V"⟩ : Cond) ∈ lw_tbl := List.mem_append_right _ (List.mem_of_getElem? (i := 1362) (by decide +kernel))
theorem ws_52 : (.selects "TypesAtPrimeModel" ⟨"TypesAtPrimeModel", "measures", "()V"⟩ ⟨"TypesAtPrimeModel", "measures", "()V"⟩ : Cond) ∈ lw_tbl := List.mem_append_left _ (List.mem_of_getElem? (i := 52) (by decide +kernel))
theorem wd_1371 : (.code ⟨"TypesAtPrimeModel", "inverse", "(I)I"⟩ prog_13_method_32_code 3 (some .int) : Cond) ∈ lw_tbl := List.mem_append_right _ (List.mem_of_getElem? (i := 1371) (by decide +kernel))
theorem cs_Model_278 : tp_CS "TypesAtPrimeModel" 278 y_X11_inverse i_X11_inverse 1 := ⟨wd_1371, wd_12, by decide, by decide, by decide +kernel⟩
theorem wd_1368 : (.methodLink "TypesAtPrimeModel" 278 ⟨"TypesAtPrimeModel", "inverse", "(I)I"⟩ : Cond) ∈ lw_tbl := List.mem_append_right _ (List.mem_of_getElem? (i := 1368) (by decide +kernel))
theorem wd_1370 : (.instanceMethod ⟨"TypesAtPrimeModel", "inverse", "(I)I"⟩ : Cond) ∈ lw_tbl := List.mem_append_right _ (List.mem_of_getElem? (i := 1370) (by decide +kernel))
theorem ws_54 : (.selects "TypesAtPrimeModel" ⟨"TypesAtPrimeModel", "inverse", "(I)I"⟩ ⟨"TypesAtPrimeModel", "inverse", "(I)I"⟩ : Cond) ∈ lw_tbl := List.mem_append_left _ (List.mem_of_getElem? (i := 54) (by decide +kernel))
theorem wd_1383 : (.code ⟨"TypesAtPrimeModel", "addsFactor", "(II)V"⟩ prog_13_method_36_code 4 (none : Option Jvm.ClassFile.FieldType) : Cond) ∈ lw_tbl := List.mem_append_right _ (List.mem_of_getElem? (i := 1383) (by decide +kernel))
theorem cs_Model_287 : tp_CS "TypesAtPrimeModel" 287 y_X11_addsFactor i_X11_addsFactor 2 := ⟨wd_1383, wd_12, by decide, by decide, by decide +kernel⟩
theorem wd_1380 : (.methodLink "TypesAtPrimeModel" 287 ⟨"TypesAtPrimeModel", "addsFactor", "(II)V"⟩ : Cond) ∈ lw_tbl := List.mem_append_right _ (List.mem_of_getElem? (i := 1380) (by decide +kernel))
theorem wd_1382 : (.instanceMethod ⟨"TypesAtPrimeModel", "addsFactor", "(II)V"⟩ : Cond) ∈ lw_tbl := List.mem_append_right _ (List.mem_of_getElem? (i := 1382) (by decide +kernel))
theorem ws_57 : (.selects "TypesAtPrimeModel" ⟨"TypesAtPrimeModel", "addsFactor", "(II)V"⟩ ⟨"TypesAtPrimeModel", "addsFactor", "(II)V"⟩ : Cond) ∈ lw_tbl := List.mem_append_left _ (List.mem_of_getElem? (i := 57) (by decide +kernel))
theorem wd_1375 : (.code ⟨"TypesAtPrimeModel", "laysTrial", "(II)V"⟩ prog_13_method_35_code 5 (none : Option Jvm.ClassFile.FieldType) : Cond) ∈ lw_tbl := List.mem_append_right _ (List.mem_of_getElem? (i := 1375) (by decide +kernel))
theorem cs_Model_281 : tp_CS "TypesAtPrimeModel" 281 y_X11_laysTrial i_X11_laysTrial 2 := ⟨wd_1375, wd_12, by decide, by decide, by decide +kernel⟩
theorem wd_1372 : (.methodLink "TypesAtPrimeModel" 281 ⟨"TypesAtPrimeModel", "laysTrial", "(II)V"⟩ : Cond) ∈ lw_tbl := List.mem_append_right _ (List.mem_of_getElem? (i := 1372) (by decide +kernel))
theorem wd_1374 : (.instanceMethod ⟨"TypesAtPrimeModel", "laysTrial", "(II)V"⟩ : Cond) ∈ lw_tbl := List.mem_append_right _ (List.mem_of_getElem? (i := 1374) (by decide +kernel))
theorem ws_55 : (.selects "TypesAtPrimeModel" ⟨"TypesAtPrimeModel", "laysTrial", "(II)V"⟩ ⟨"TypesAtPrimeModel", "laysTrial", "(II)V"⟩ : Cond) ∈ lw_tbl := List.mem_append_left _ (List.mem_of_getElem? (i := 55) (by decide +kernel))
theorem wd_1379 : (.code ⟨"TypesAtPrimeModel", "divides", "(I)Z"⟩ prog_13_method_34_code 4 (some .boolean) : Cond) ∈ lw_tbl := List.mem_append_right _ (List.mem_of_getElem? (i := 1379) (by decide +kernel))
theorem cs_Model_284 : tp_CS "TypesAtPrimeModel" 284 y_X11_divides i_X11_divides 1 := ⟨wd_1379, wd_12, by decide, by decide, by decide +kernel⟩
theorem wd_1376 : (.methodLink "TypesAtPrimeModel" 284 ⟨"TypesAtPrimeModel", "divides", "(I)Z"⟩ : Cond) ∈ lw_tbl := List.mem_append_right _ (List.mem_of_getElem? (i := 1376) (by decide +kernel))
theorem wd_1378 : (.instanceMethod ⟨"TypesAtPrimeModel", "divides", "(I)Z"⟩ : Cond) ∈ lw_tbl := List.mem_append_right _ (List.mem_of_getElem? (i := 1378) (by decide +kernel))
theorem ws_56 : (.selects "TypesAtPrimeModel" ⟨"TypesAtPrimeModel", "divides", "(I)Z"⟩ ⟨"TypesAtPrimeModel", "divides", "(I)Z"⟩ : Cond) ∈ lw_tbl := List.mem_append_left _ (List.mem_of_getElem? (i := 56) (by decide +kernel))
def y_X11_takesApart : MethodName := ⟨"TypesAtPrimeModel", "takesApart", "()V"⟩
abbrev i_X11_takesApart : tp_I := (prog_13_method_37_code, "TypesAtPrimeModel", none, 6, "takesApart")
abbrev o_X11_takesApart : tp_M → tp_O := fun r => (none, tp_NC, tp_st r)
theorem d_X11_takesApart_0 : decode prog_13_method_37_code 0 = .ok (.aload_n 0, 1) := by decide +kernel
theorem d_X11_takesApart_1 : decode prog_13_method_37_code 1 = .ok (.iconst 0, 1) := by decide +kernel
theorem d_X11_takesApart_2 : decode prog_13_method_37_code 2 = .ok (.putfield 272, 3) := by decide +kernel
theorem d_X11_takesApart_5 : decode prog_13_method_37_code 5 = .ok (.aload_n 0, 1) := by decide +kernel
theorem d_X11_takesApart_6 : decode prog_13_method_37_code 6 = .ok (.invokevirtual 275, 3) := by decide +kernel
theorem d_X11_takesApart_9 : decode prog_13_method_37_code 9 = .ok (.aload_n 0, 1) := by decide +kernel
theorem d_X11_takesApart_10 : decode prog_13_method_37_code 10 = .ok (.aload_n 0, 1) := by decide +kernel
theorem d_X11_takesApart_11 : decode prog_13_method_37_code 11 = .ok (.getfield 26, 3) := by decide +kernel
theorem d_X11_takesApart_14 : decode prog_13_method_37_code 14 = .ok (.aload_n 0, 1) := by decide +kernel
theorem d_X11_takesApart_15 : decode prog_13_method_37_code 15 = .ok (.getfield 265, 3) := by decide +kernel
theorem d_X11_takesApart_18 : decode prog_13_method_37_code 18 = .ok (.iaload, 1) := by decide +kernel
theorem d_X11_takesApart_19 : decode prog_13_method_37_code 19 = .ok (.invokevirtual 278, 3) := by decide +kernel
theorem d_X11_takesApart_22 : decode prog_13_method_37_code 22 = .ok (.istore_n 1, 1) := by decide +kernel
theorem d_X11_takesApart_23 : decode prog_13_method_37_code 23 = .ok (.iconst 0, 1) := by decide +kernel
theorem d_X11_takesApart_24 : decode prog_13_method_37_code 24 = .ok (.istore_n 2, 1) := by decide +kernel
theorem d_X11_takesApart_25 : decode prog_13_method_37_code 25 = .ok (.iload_n 2, 1) := by decide +kernel
theorem d_X11_takesApart_26 : decode prog_13_method_37_code 26 = .ok (.aload_n 0, 1) := by decide +kernel
theorem d_X11_takesApart_27 : decode prog_13_method_37_code 27 = .ok (.getfield 265, 3) := by decide +kernel
theorem d_X11_takesApart_30 : decode prog_13_method_37_code 30 = .ok (.if_icmp .gt 28, 3) := by decide +kernel
theorem d_X11_takesApart_33 : decode prog_13_method_37_code 33 = .ok (.aload_n 0, 1) := by decide +kernel
theorem d_X11_takesApart_34 : decode prog_13_method_37_code 34 = .ok (.getfield 26, 3) := by decide +kernel
theorem d_X11_takesApart_37 : decode prog_13_method_37_code 37 = .ok (.iload_n 2, 1) := by decide +kernel
theorem d_X11_takesApart_38 : decode prog_13_method_37_code 38 = .ok (.aload_n 0, 1) := by decide +kernel
theorem d_X11_takesApart_39 : decode prog_13_method_37_code 39 = .ok (.getfield 26, 3) := by decide +kernel
theorem d_X11_takesApart_42 : decode prog_13_method_37_code 42 = .ok (.iload_n 2, 1) := by decide +kernel
theorem d_X11_takesApart_43 : decode prog_13_method_37_code 43 = .ok (.iaload, 1) := by decide +kernel
theorem d_X11_takesApart_44 : decode prog_13_method_37_code 44 = .ok (.iload_n 1, 1) := by decide +kernel
theorem d_X11_takesApart_45 : decode prog_13_method_37_code 45 = .ok (.imul, 1) := by decide +kernel
theorem d_X11_takesApart_46 : decode prog_13_method_37_code 46 = .ok (.aload_n 0, 1) := by decide +kernel
theorem d_X11_takesApart_47 : decode prog_13_method_37_code 47 = .ok (.getfield 168, 3) := by decide +kernel
theorem d_X11_takesApart_50 : decode prog_13_method_37_code 50 = .ok (.irem, 1) := by decide +kernel
theorem d_X11_takesApart_51 : decode prog_13_method_37_code 51 = .ok (.iastore, 1) := by decide +kernel
theorem d_X11_takesApart_52 : decode prog_13_method_37_code 52 = .ok (.iinc 2 1, 3) := by decide +kernel
theorem d_X11_takesApart_55 : decode prog_13_method_37_code 55 = .ok (.goto (-30), 3) := by decide +kernel
theorem d_X11_takesApart_58 : decode prog_13_method_37_code 58 = .ok (.iconst 1, 1) := by decide +kernel
theorem d_X11_takesApart_59 : decode prog_13_method_37_code 59 = .ok (.istore_n 2, 1) := by decide +kernel
theorem d_X11_takesApart_60 : decode prog_13_method_37_code 60 = .ok (.iconst 1, 1) := by decide +kernel
theorem d_X11_takesApart_61 : decode prog_13_method_37_code 61 = .ok (.istore_n 3, 1) := by decide +kernel
theorem d_X11_takesApart_62 : decode prog_13_method_37_code 62 = .ok (.iconst 2, 1) := by decide +kernel
theorem d_X11_takesApart_63 : decode prog_13_method_37_code 63 = .ok (.iload_n 3, 1) := by decide +kernel
theorem d_X11_takesApart_64 : decode prog_13_method_37_code 64 = .ok (.imul, 1) := by decide +kernel
theorem d_X11_takesApart_65 : decode prog_13_method_37_code 65 = .ok (.aload_n 0, 1) := by decide +kernel
theorem d_X11_takesApart_66 : decode prog_13_method_37_code 66 = .ok (.getfield 265, 3) := by decide +kernel
theorem d_X11_takesApart_69 : decode prog_13_method_37_code 69 = .ok (.if_icmp .gt 83, 3) := by decide +kernel
theorem d_X11_takesApart_72 : decode prog_13_method_37_code 72 = .ok (.iload_n 2, 1) := by decide +kernel
theorem d_X11_takesApart_73 : decode prog_13_method_37_code 73 = .ok (.aload_n 0, 1) := by decide +kernel
theorem d_X11_takesApart_74 : decode prog_13_method_37_code 74 = .ok (.getfield 168, 3) := by decide +kernel
theorem d_X11_takesApart_77 : decode prog_13_method_37_code 77 = .ok (.imul, 1) := by decide +kernel
theorem d_X11_takesApart_78 : decode prog_13_method_37_code 78 = .ok (.istore_n 2, 1) := by decide +kernel
theorem d_X11_takesApart_79 : decode prog_13_method_37_code 79 = .ok (.iconst 0, 1) := by decide +kernel
theorem d_X11_takesApart_80 : decode prog_13_method_37_code 80 = .ok (.istore 4, 2) := by decide +kernel
theorem d_X11_takesApart_82 : decode prog_13_method_37_code 82 = .ok (.iload 4, 2) := by decide +kernel
theorem d_X11_takesApart_84 : decode prog_13_method_37_code 84 = .ok (.iload_n 2, 1) := by decide +kernel
theorem d_X11_takesApart_85 : decode prog_13_method_37_code 85 = .ok (.if_icmp .ge 61, 3) := by decide +kernel
theorem d_X11_takesApart_88 : decode prog_13_method_37_code 88 = .ok (.aload_n 0, 1) := by decide +kernel
theorem d_X11_takesApart_89 : decode prog_13_method_37_code 89 = .ok (.getfield 265, 3) := by decide +kernel
theorem d_X11_takesApart_92 : decode prog_13_method_37_code 92 = .ok (.iload_n 3, 1) := by decide +kernel
theorem d_X11_takesApart_93 : decode prog_13_method_37_code 93 = .ok (.if_icmp .lt 53, 3) := by decide +kernel
theorem d_X11_takesApart_96 : decode prog_13_method_37_code 96 = .ok (.aload_n 0, 1) := by decide +kernel
theorem d_X11_takesApart_97 : decode prog_13_method_37_code 97 = .ok (.iload 4, 2) := by decide +kernel
theorem d_X11_takesApart_99 : decode prog_13_method_37_code 99 = .ok (.iload_n 3, 1) := by decide +kernel
theorem d_X11_takesApart_100 : decode prog_13_method_37_code 100 = .ok (.invokevirtual 281, 3) := by decide +kernel
theorem d_X11_takesApart_103 : decode prog_13_method_37_code 103 = .ok (.iconst 0, 1) := by decide +kernel
theorem d_X11_takesApart_104 : decode prog_13_method_37_code 104 = .ok (.istore 5, 2) := by decide +kernel
theorem d_X11_takesApart_106 : decode prog_13_method_37_code 106 = .ok (.aload_n 0, 1) := by decide +kernel
theorem d_X11_takesApart_107 : decode prog_13_method_37_code 107 = .ok (.getfield 265, 3) := by decide +kernel
theorem d_X11_takesApart_110 : decode prog_13_method_37_code 110 = .ok (.iload_n 3, 1) := by decide +kernel
theorem d_X11_takesApart_111 : decode prog_13_method_37_code 111 = .ok (.if_icmp .lt 17, 3) := by decide +kernel
theorem d_X11_takesApart_114 : decode prog_13_method_37_code 114 = .ok (.aload_n 0, 1) := by decide +kernel
theorem d_X11_takesApart_115 : decode prog_13_method_37_code 115 = .ok (.iload_n 3, 1) := by decide +kernel
theorem d_X11_takesApart_116 : decode prog_13_method_37_code 116 = .ok (.invokevirtual 284, 3) := by decide +kernel
theorem d_X11_takesApart_119 : decode prog_13_method_37_code 119 = .ok (.ifCond .eq 9, 3) := by decide +kernel
theorem d_X11_takesApart_122 : decode prog_13_method_37_code 122 = .ok (.iinc 5 1, 3) := by decide +kernel
theorem d_X11_takesApart_125 : decode prog_13_method_37_code 125 = .ok (.goto (-19), 3) := by decide +kernel
theorem d_X11_takesApart_128 : decode prog_13_method_37_code 128 = .ok (.iload 5, 2) := by decide +kernel
theorem d_X11_takesApart_130 : decode prog_13_method_37_code 130 = .ok (.ifCond .le 10, 3) := by decide +kernel
theorem d_X11_takesApart_133 : decode prog_13_method_37_code 133 = .ok (.aload_n 0, 1) := by decide +kernel
theorem d_X11_takesApart_134 : decode prog_13_method_37_code 134 = .ok (.iload_n 3, 1) := by decide +kernel
theorem d_X11_takesApart_135 : decode prog_13_method_37_code 135 = .ok (.iload 5, 2) := by decide +kernel
theorem d_X11_takesApart_137 : decode prog_13_method_37_code 137 = .ok (.invokevirtual 287, 3) := by decide +kernel
theorem d_X11_takesApart_140 : decode prog_13_method_37_code 140 = .ok (.iinc 4 1, 3) := by decide +kernel
theorem d_X11_takesApart_143 : decode prog_13_method_37_code 143 = .ok (.goto (-61), 3) := by decide +kernel
theorem d_X11_takesApart_146 : decode prog_13_method_37_code 146 = .ok (.iinc 3 1, 3) := by decide +kernel
theorem d_X11_takesApart_149 : decode prog_13_method_37_code 149 = .ok (.goto (-87), 3) := by decide +kernel
theorem d_X11_takesApart_152 : decode prog_13_method_37_code 152 = .ok (.aload_n 0, 1) := by decide +kernel
theorem d_X11_takesApart_153 : decode prog_13_method_37_code 153 = .ok (.getfield 265, 3) := by decide +kernel
theorem d_X11_takesApart_156 : decode prog_13_method_37_code 156 = .ok (.ifCond .le 50, 3) := by decide +kernel
theorem d_X11_takesApart_159 : decode prog_13_method_37_code 159 = .ok (.iconst 0, 1) := by decide +kernel
theorem d_X11_takesApart_160 : decode prog_13_method_37_code 160 = .ok (.istore_n 3, 1) := by decide +kernel
theorem d_X11_takesApart_161 : decode prog_13_method_37_code 161 = .ok (.iload_n 3, 1) := by decide +kernel
theorem d_X11_takesApart_162 : decode prog_13_method_37_code 162 = .ok (.bipush 9, 2) := by decide +kernel
theorem d_X11_takesApart_164 : decode prog_13_method_37_code 164 = .ok (.if_icmp .ge 33, 3) := by decide +kernel
theorem d_X11_takesApart_167 : decode prog_13_method_37_code 167 = .ok (.aload_n 0, 1) := by decide +kernel
theorem d_X11_takesApart_168 : decode prog_13_method_37_code 168 = .ok (.getfield 38, 3) := by decide +kernel
theorem d_X11_takesApart_171 : decode prog_13_method_37_code 171 = .ok (.iload_n 3, 1) := by decide +kernel
theorem d_X11_takesApart_172 : decode prog_13_method_37_code 172 = .ok (.iload_n 3, 1) := by decide +kernel
theorem d_X11_takesApart_173 : decode prog_13_method_37_code 173 = .ok (.aload_n 0, 1) := by decide +kernel
theorem d_X11_takesApart_174 : decode prog_13_method_37_code 174 = .ok (.getfield 265, 3) := by decide +kernel
theorem d_X11_takesApart_177 : decode prog_13_method_37_code 177 = .ok (.if_icmp .gt 12, 3) := by decide +kernel
theorem d_X11_takesApart_180 : decode prog_13_method_37_code 180 = .ok (.aload_n 0, 1) := by decide +kernel
theorem d_X11_takesApart_181 : decode prog_13_method_37_code 181 = .ok (.getfield 26, 3) := by decide +kernel
theorem d_X11_takesApart_184 : decode prog_13_method_37_code 184 = .ok (.iload_n 3, 1) := by decide +kernel
theorem d_X11_takesApart_185 : decode prog_13_method_37_code 185 = .ok (.iaload, 1) := by decide +kernel
theorem d_X11_takesApart_186 : decode prog_13_method_37_code 186 = .ok (.goto 4, 3) := by decide +kernel
theorem d_X11_takesApart_189 : decode prog_13_method_37_code 189 = .ok (.iconst 0, 1) := by decide +kernel
theorem d_X11_takesApart_190 : decode prog_13_method_37_code 190 = .ok (.iastore, 1) := by decide +kernel
theorem d_X11_takesApart_191 : decode prog_13_method_37_code 191 = .ok (.iinc 3 1, 3) := by decide +kernel
theorem d_X11_takesApart_194 : decode prog_13_method_37_code 194 = .ok (.goto (-33), 3) := by decide +kernel
theorem d_X11_takesApart_197 : decode prog_13_method_37_code 197 = .ok (.aload_n 0, 1) := by decide +kernel
theorem d_X11_takesApart_198 : decode prog_13_method_37_code 198 = .ok (.aload_n 0, 1) := by decide +kernel
theorem d_X11_takesApart_199 : decode prog_13_method_37_code 199 = .ok (.getfield 265, 3) := by decide +kernel
theorem d_X11_takesApart_202 : decode prog_13_method_37_code 202 = .ok (.iconst 1, 1) := by decide +kernel
theorem d_X11_takesApart_203 : decode prog_13_method_37_code 203 = .ok (.invokevirtual 287, 3) := by decide +kernel
theorem d_X11_takesApart_206 : decode prog_13_method_37_code 206 = .ok (.return_, 1) := by decide +kernel
def f_X11_takesApart_190 (rec_161 : Int → tp_M → Option (tp_M)) (x3 : Int) (s0 : Int) (s1 : Int) (M0 : tp_M) : Option (tp_M) :=
  if 0 ≤ s1 ∧ s1 < 9 then
    tp_mp (tp_up M0 493 s1 s0) fun M13 =>
    tp_lt (tp_w (x3 + 1)) fun y14 =>
    rec_161 y14 M13 else none
set_option maxHeartbeats 4000000 in
set_option maxRecDepth 100000 in
theorem T_X11_takesApart_190 (G : tp_G) (rec_161 : Int → tp_M → Option (tp_M)) (x3 : Int) (s0 : Int) (s1 : Int) (M0 : tp_M) (hrec_161 : ∀ (x3' : Int) (M' : tp_M), tp_J i_X11_takesApart (tp_rm 2) G 0 0 o_X11_takesApart tp_NC (tp_st M') 0 0 [some (.inr (.inr 483)), none, none, some (.inl (x3')), none, none] 161 [] (rec_161 x3' M')) : tp_J i_X11_takesApart (tp_rm 2) G 0 0 o_X11_takesApart tp_NC (tp_st M0) 0 0 [some (.inr (.inr 483)), none, none, some (.inl x3), none, none] 190 [.inl s0, .inl s1, .inr (.inr 493)] (f_X11_takesApart_190 rec_161 x3 s0 s1 M0) := by
  unfold f_X11_takesApart_190
  refine j_iast tg_493 al_493 d_X11_takesApart_190 (fun M13 hM13 => ?_)
  refine j_iincN (lv' := fun y14 => [some (.inr (.inr 483)), none, none, some (.inl y14), none, none]) d_X11_takesApart_191 rfl (Nat.le_of_ble_eq_true rfl) (fun _ => rfl) (fun y14 hy14 => ?_)
  refine j_goto (tgt := 161) d_X11_takesApart_194 (by decide) ?_
  exact j_wk [true, false, false, true, false, false] rfl rfl (hrec_161 y14 M13)
def f_X11_takesApart_161B (rec_161 : Int → tp_M → Option (tp_M)) (x3 : Int) (M0 : tp_M) : Option (tp_M) :=
  if 9 ≤ x3 then
    (f_X11_addsFactor (M0 483 11) 1 M0).bind fun r10 =>
    some r10
  else
    if (M0 483 11) < x3 then
      f_X11_takesApart_190 rec_161 x3 0 x3 M0
    else
      if 0 ≤ x3 ∧ x3 < 9 then
        f_X11_takesApart_190 rec_161 x3 (M0 489 x3) x3 M0 else none
set_option maxHeartbeats 4000000 in
set_option maxRecDepth 100000 in
theorem T_X11_takesApart_161B (G : tp_G) (rec_161 : Int → tp_M → Option (tp_M)) (hrec_161 : ∀ (x3' : Int) (M' : tp_M), tp_J i_X11_takesApart (tp_rm 2) G 0 0 o_X11_takesApart tp_NC (tp_st M') 0 0 [some (.inr (.inr 483)), none, none, some (.inl (x3')), none, none] 161 [] (rec_161 x3' M')) (x3 : Int) (M0 : tp_M) : tp_J i_X11_takesApart (tp_rm 2) G 0 0 o_X11_takesApart tp_NC (tp_st M0) 0 0 [some (.inr (.inr 483)), none, none, some (.inl x3), none, none] 161 [] (f_X11_takesApart_161B rec_161 x3 M0) := by
  unfold f_X11_takesApart_161B
  refine j_iload_n rfl d_X11_takesApart_161 rfl ?_
  refine j_bipush ⟨by decide, by decide⟩ (by decide +kernel) d_X11_takesApart_162 ?_
  refine j_icmp_ge (tgt := 197) d_X11_takesApart_164 (by decide) (fun h9 => ?_) (fun h9 => ?_)
  · refine j_aload_n rfl d_X11_takesApart_197 rfl ?_
    refine j_aload_n rfl d_X11_takesApart_198 rfl ?_
    refine j_geti fl_Model_265 tg_483 d_X11_takesApart_199 ?_
    refine j_iconst ⟨by decide, by decide⟩ d_X11_takesApart_202 ?_
    refine j_bind (fun r10 h11 => ?_)
    refine j_callV (y := y_X11_addsFactor) (I' := i_X11_addsFactor) (avs := [.inl (M0 483 11), .inl 1]) (c := 483) (st := []) (c_X11_addsFactor G (M0 483 11) 1 M0 r10 h11) cs_Model_287 wd_1380 wd_1382 ws_57 tg_483 rfl rfl rfl (Nat.le_of_ble_eq_true rfl) ⟨rfl, rfl⟩ ⟨by decide, by decide⟩ ⟨by decide, by decide⟩ d_X11_takesApart_203 ?_
    exact j_vret d_X11_takesApart_206 rfl rfl ⟨rfl, rfl⟩
  · refine j_aload_n rfl d_X11_takesApart_167 rfl ?_
    refine j_getr fl_Model_38 tg_483 rv_483_16 d_X11_takesApart_168 ?_
    refine j_iload_n rfl d_X11_takesApart_171 rfl ?_
    refine j_iload_n rfl d_X11_takesApart_172 rfl ?_
    refine j_aload_n rfl d_X11_takesApart_173 rfl ?_
    refine j_geti fl_Model_265 tg_483 d_X11_takesApart_174 ?_
    refine j_icmp_gt (tgt := 189) d_X11_takesApart_177 (by decide) (fun h12 => ?_) (fun h12 => ?_)
    · refine j_iconst ⟨by decide, by decide⟩ d_X11_takesApart_189 ?_
      exact j_wk [true, false, false, true, false, false] rfl rfl (T_X11_takesApart_190 G rec_161 x3 0 x3 M0 hrec_161)
    · refine j_aload_n rfl d_X11_takesApart_180 rfl ?_
      refine j_getr fl_Model_26 tg_483 rv_483_10 d_X11_takesApart_181 ?_
      refine j_iload_n rfl d_X11_takesApart_184 rfl ?_
      refine j_iald tg_489 al_489 d_X11_takesApart_185 ?_
      refine j_goto (tgt := 190) d_X11_takesApart_186 (by decide) ?_
      exact j_wk [true, false, false, true, false, false] rfl rfl (T_X11_takesApart_190 G rec_161 x3 (M0 489 x3) x3 M0 hrec_161)
def f_X11_takesApart_161 (x3 : Int) (M0 : tp_M) : Option (tp_M) := tp_lp (σ := Int × tp_M) (fun rec_ u => f_X11_takesApart_161B (fun x3' M0' => rec_ (x3', M0')) u.1 u.2) tp_N (x3, M0)
set_option maxHeartbeats 4000000 in
set_option maxRecDepth 100000 in
theorem T_X11_takesApart_161 (G : tp_G) (x3 : Int) (M0 : tp_M) : tp_J i_X11_takesApart (tp_rm 2) G 0 0 o_X11_takesApart tp_NC (tp_st M0) 0 0 [some (.inr (.inr 483)), none, none, some (.inl x3), none, none] 161 [] (f_X11_takesApart_161 x3 M0) := by
  unfold f_X11_takesApart_161
  exact j_lp (σ := Int × tp_M) (n' := fun _ => tp_NC) (g' := fun u => tp_st u.2) (k' := fun _ => 0) (q' := fun _ => 0) (lv' := fun u => [some (.inr (.inr 483)), none, none, some (.inl u.1), none, none]) (fun rec_ hrec u => T_X11_takesApart_161B G (fun x3' M0' => rec_ (x3', M0')) (fun x3' M0' => hrec (x3', M0')) u.1 u.2) tp_N (x3, M0)
def f_X11_takesApart_146 (rec_62 : Int → Int → tp_M → Option (tp_M)) (x2 : Int) (x3 : Int) (M0 : tp_M) : Option (tp_M) :=
  tp_lt (tp_w (x3 + 1)) fun y17 =>
  rec_62 x2 y17 M0
set_option maxHeartbeats 4000000 in
set_option maxRecDepth 100000 in
theorem T_X11_takesApart_146 (G : tp_G) (rec_62 : Int → Int → tp_M → Option (tp_M)) (x2 : Int) (x3 : Int) (M0 : tp_M) (hrec_62 : ∀ (x2' x3' : Int) (M' : tp_M), tp_J i_X11_takesApart (tp_rm 2) G 0 0 o_X11_takesApart tp_NC (tp_st M') 0 0 [some (.inr (.inr 483)), none, some (.inl (x2')), some (.inl (x3')), none, none] 62 [] (rec_62 x2' x3' M')) : tp_J i_X11_takesApart (tp_rm 2) G 0 0 o_X11_takesApart tp_NC (tp_st M0) 0 0 [some (.inr (.inr 483)), none, some (.inl x2), some (.inl x3), none, none] 146 [] (f_X11_takesApart_146 rec_62 x2 x3 M0) := by
  unfold f_X11_takesApart_146
  refine j_iincN (lv' := fun y17 => [some (.inr (.inr 483)), none, some (.inl x2), some (.inl y17), none, none]) d_X11_takesApart_146 rfl (Nat.le_of_ble_eq_true rfl) (fun _ => rfl) (fun y17 hy17 => ?_)
  refine j_goto (tgt := 62) d_X11_takesApart_149 (by decide) ?_
  exact j_wk [true, false, true, true, false, false] rfl rfl (hrec_62 x2 y17 M0)
def f_X11_takesApart_140 (rec_62 : Int → Int → tp_M → Option (tp_M)) (rec_82 : Int → tp_M → Option (tp_M)) (x2 : Int) (x3 : Int) (x4 : Int) (M0 : tp_M) : Option (tp_M) :=
  tp_lt (tp_w (x4 + 1)) fun y23 =>
  rec_82 y23 M0
set_option maxHeartbeats 4000000 in
set_option maxRecDepth 100000 in
theorem T_X11_takesApart_140 (G : tp_G) (rec_62 : Int → Int → tp_M → Option (tp_M)) (rec_82 : Int → tp_M → Option (tp_M)) (x2 : Int) (x3 : Int) (x4 : Int) (M0 : tp_M) (hrec_62 : ∀ (x2' x3' : Int) (M' : tp_M), tp_J i_X11_takesApart (tp_rm 2) G 0 0 o_X11_takesApart tp_NC (tp_st M') 0 0 [some (.inr (.inr 483)), none, some (.inl (x2')), some (.inl (x3')), none, none] 62 [] (rec_62 x2' x3' M')) (hrec_82 : ∀ (x4' : Int) (M' : tp_M), tp_J i_X11_takesApart (tp_rm 2) G 0 0 o_X11_takesApart tp_NC (tp_st M') 0 0 [some (.inr (.inr 483)), none, some (.inl x2), some (.inl x3), some (.inl (x4')), none] 82 [] (rec_82 x4' M')) : tp_J i_X11_takesApart (tp_rm 2) G 0 0 o_X11_takesApart tp_NC (tp_st M0) 0 0 [some (.inr (.inr 483)), none, some (.inl x2), some (.inl x3), some (.inl x4), none] 140 [] (f_X11_takesApart_140 rec_62 rec_82 x2 x3 x4 M0) := by
  unfold f_X11_takesApart_140
  refine j_iincN (lv' := fun y23 => [some (.inr (.inr 483)), none, some (.inl x2), some (.inl x3), some (.inl y23), none]) d_X11_takesApart_140 rfl (Nat.le_of_ble_eq_true rfl) (fun _ => rfl) (fun y23 hy23 => ?_)
  refine j_goto (tgt := 82) d_X11_takesApart_143 (by decide) ?_
  exact j_wk [true, false, true, true, true, false] rfl rfl (hrec_82 y23 M0)
def f_X11_takesApart_128 (rec_62 : Int → Int → tp_M → Option (tp_M)) (rec_82 : Int → tp_M → Option (tp_M)) (x2 : Int) (x3 : Int) (x4 : Int) (x5 : Int) (M0 : tp_M) : Option (tp_M) :=
  if x5 ≤ 0 then
    f_X11_takesApart_140 rec_62 rec_82 x2 x3 x4 M0
  else
    (f_X11_addsFactor x3 x5 M0).bind fun r24 =>
    f_X11_takesApart_140 rec_62 rec_82 x2 x3 x4 r24
set_option maxHeartbeats 4000000 in
set_option maxRecDepth 100000 in
theorem T_X11_takesApart_128 (G : tp_G) (rec_62 : Int → Int → tp_M → Option (tp_M)) (rec_82 : Int → tp_M → Option (tp_M)) (x2 : Int) (x3 : Int) (x4 : Int) (x5 : Int) (M0 : tp_M) (hrec_62 : ∀ (x2' x3' : Int) (M' : tp_M), tp_J i_X11_takesApart (tp_rm 2) G 0 0 o_X11_takesApart tp_NC (tp_st M') 0 0 [some (.inr (.inr 483)), none, some (.inl (x2')), some (.inl (x3')), none, none] 62 [] (rec_62 x2' x3' M')) (hrec_82 : ∀ (x4' : Int) (M' : tp_M), tp_J i_X11_takesApart (tp_rm 2) G 0 0 o_X11_takesApart tp_NC (tp_st M') 0 0 [some (.inr (.inr 483)), none, some (.inl x2), some (.inl x3), some (.inl (x4')), none] 82 [] (rec_82 x4' M')) : tp_J i_X11_takesApart (tp_rm 2) G 0 0 o_X11_takesApart tp_NC (tp_st M0) 0 0 [some (.inr (.inr 483)), none, some (.inl x2), some (.inl x3), some (.inl x4), some (.inl x5)] 128 [] (f_X11_takesApart_128 rec_62 rec_82 x2 x3 x4 x5 M0) := by
  unfold f_X11_takesApart_128
  refine j_iload d_X11_takesApart_128 rfl ?_
  refine j_if_le (tgt := 140) d_X11_takesApart_130 (by decide) (fun h22 => ?_) (fun h22 => ?_)
  · exact j_wk [true, false, true, true, true, false] rfl rfl (T_X11_takesApart_140 G rec_62 rec_82 x2 x3 x4 M0 hrec_62 hrec_82)
  · refine j_aload_n rfl d_X11_takesApart_133 rfl ?_
    refine j_iload_n rfl d_X11_takesApart_134 rfl ?_
    refine j_iload d_X11_takesApart_135 rfl ?_
    refine j_bind (fun r24 h25 => ?_)
    refine j_callV (y := y_X11_addsFactor) (I' := i_X11_addsFactor) (avs := [.inl x3, .inl x5]) (c := 483) (st := []) (c_X11_addsFactor G x3 x5 M0 r24 h25) cs_Model_287 wd_1380 wd_1382 ws_57 tg_483 rfl rfl rfl (Nat.le_of_ble_eq_true rfl) ⟨rfl, rfl⟩ ⟨by decide, by decide⟩ ⟨by decide, by decide⟩ d_X11_takesApart_137 ?_
    exact j_wk [true, false, true, true, true, false] rfl rfl (T_X11_takesApart_140 G rec_62 rec_82 x2 x3 x4 r24 hrec_62 hrec_82)
def f_X11_takesApart_106B (rec_62 : Int → Int → tp_M → Option (tp_M)) (rec_82 : Int → tp_M → Option (tp_M)) (x2 : Int) (x3 : Int) (x4 : Int) (rec_106 : Int → tp_M → Option (tp_M)) (x5 : Int) (M0 : tp_M) : Option (tp_M) :=
  if (M0 483 11) < x3 then
    f_X11_takesApart_128 rec_62 rec_82 x2 x3 x4 x5 M0
  else
    (f_X11_divides x3 M0).bind fun r26 =>
    if r26.1 = 0 then
      f_X11_takesApart_128 rec_62 rec_82 x2 x3 x4 x5 r26.2
    else
      tp_lt (tp_w (x5 + 1)) fun y29 =>
      rec_106 y29 r26.2
set_option maxHeartbeats 4000000 in
set_option maxRecDepth 100000 in
theorem T_X11_takesApart_106B (G : tp_G) (rec_62 : Int → Int → tp_M → Option (tp_M)) (rec_82 : Int → tp_M → Option (tp_M)) (x2 : Int) (x3 : Int) (x4 : Int) (hrec_62 : ∀ (x2' x3' : Int) (M' : tp_M), tp_J i_X11_takesApart (tp_rm 2) G 0 0 o_X11_takesApart tp_NC (tp_st M') 0 0 [some (.inr (.inr 483)), none, some (.inl (x2')), some (.inl (x3')), none, none] 62 [] (rec_62 x2' x3' M')) (hrec_82 : ∀ (x4' : Int) (M' : tp_M), tp_J i_X11_takesApart (tp_rm 2) G 0 0 o_X11_takesApart tp_NC (tp_st M') 0 0 [some (.inr (.inr 483)), none, some (.inl x2), some (.inl x3), some (.inl (x4')), none] 82 [] (rec_82 x4' M')) (rec_106 : Int → tp_M → Option (tp_M)) (hrec_106 : ∀ (x5' : Int) (M' : tp_M), tp_J i_X11_takesApart (tp_rm 2) G 0 0 o_X11_takesApart tp_NC (tp_st M') 0 0 [some (.inr (.inr 483)), none, some (.inl x2), some (.inl x3), some (.inl x4), some (.inl (x5'))] 106 [] (rec_106 x5' M')) (x5 : Int) (M0 : tp_M) : tp_J i_X11_takesApart (tp_rm 2) G 0 0 o_X11_takesApart tp_NC (tp_st M0) 0 0 [some (.inr (.inr 483)), none, some (.inl x2), some (.inl x3), some (.inl x4), some (.inl x5)] 106 [] (f_X11_takesApart_106B rec_62 rec_82 x2 x3 x4 rec_106 x5 M0) := by
  unfold f_X11_takesApart_106B
  refine j_aload_n rfl d_X11_takesApart_106 rfl ?_
  refine j_geti fl_Model_265 tg_483 d_X11_takesApart_107 ?_
  refine j_iload_n rfl d_X11_takesApart_110 rfl ?_
  refine j_icmp_lt (tgt := 128) d_X11_takesApart_111 (by decide) (fun h21 => ?_) (fun h21 => ?_)
  · exact j_wk [true, false, true, true, true, true] rfl rfl (T_X11_takesApart_128 G rec_62 rec_82 x2 x3 x4 x5 M0 hrec_62 hrec_82)
  · refine j_aload_n rfl d_X11_takesApart_114 rfl ?_
    refine j_iload_n rfl d_X11_takesApart_115 rfl ?_
    refine j_bind (fun r26 h27 => ?_)
    refine j_callV (y := y_X11_divides) (I' := i_X11_divides) (avs := [.inl x3]) (c := 483) (st := []) (c_X11_divides G x3 M0 r26 h27) cs_Model_284 wd_1376 wd_1378 ws_56 tg_483 rfl rfl rfl (Nat.le_of_ble_eq_true rfl) ⟨rfl, rfl⟩ ⟨by decide, by decide⟩ ⟨by decide, by decide⟩ d_X11_takesApart_116 ?_
    refine j_if_eq (tgt := 128) d_X11_takesApart_119 (by decide) (fun h28 => ?_) (fun h28 => ?_)
    · exact j_wk [true, false, true, true, true, true] rfl rfl (T_X11_takesApart_128 G rec_62 rec_82 x2 x3 x4 x5 r26.2 hrec_62 hrec_82)
    · refine j_iincN (lv' := fun y29 => [some (.inr (.inr 483)), none, some (.inl x2), some (.inl x3), some (.inl x4), some (.inl y29)]) d_X11_takesApart_122 rfl (Nat.le_of_ble_eq_true rfl) (fun _ => rfl) (fun y29 hy29 => ?_)
      refine j_goto (tgt := 106) d_X11_takesApart_125 (by decide) ?_
      exact j_wk [true, false, true, true, true, true] rfl rfl (hrec_106 y29 r26.2)
def f_X11_takesApart_106 (rec_62 : Int → Int → tp_M → Option (tp_M)) (rec_82 : Int → tp_M → Option (tp_M)) (x2 : Int) (x3 : Int) (x4 : Int) (x5 : Int) (M0 : tp_M) : Option (tp_M) := tp_lp (σ := Int × tp_M) (fun rec_ u => f_X11_takesApart_106B rec_62 rec_82 x2 x3 x4 (fun x5' M0' => rec_ (x5', M0')) u.1 u.2) tp_N (x5, M0)
set_option maxHeartbeats 4000000 in
set_option maxRecDepth 100000 in
theorem T_X11_takesApart_106 (G : tp_G) (rec_62 : Int → Int → tp_M → Option (tp_M)) (rec_82 : Int → tp_M → Option (tp_M)) (x2 : Int) (x3 : Int) (x4 : Int) (x5 : Int) (M0 : tp_M) (hrec_62 : ∀ (x2' x3' : Int) (M' : tp_M), tp_J i_X11_takesApart (tp_rm 2) G 0 0 o_X11_takesApart tp_NC (tp_st M') 0 0 [some (.inr (.inr 483)), none, some (.inl (x2')), some (.inl (x3')), none, none] 62 [] (rec_62 x2' x3' M')) (hrec_82 : ∀ (x4' : Int) (M' : tp_M), tp_J i_X11_takesApart (tp_rm 2) G 0 0 o_X11_takesApart tp_NC (tp_st M') 0 0 [some (.inr (.inr 483)), none, some (.inl x2), some (.inl x3), some (.inl (x4')), none] 82 [] (rec_82 x4' M')) : tp_J i_X11_takesApart (tp_rm 2) G 0 0 o_X11_takesApart tp_NC (tp_st M0) 0 0 [some (.inr (.inr 483)), none, some (.inl x2), some (.inl x3), some (.inl x4), some (.inl x5)] 106 [] (f_X11_takesApart_106 rec_62 rec_82 x2 x3 x4 x5 M0) := by
  unfold f_X11_takesApart_106
  exact j_lp (σ := Int × tp_M) (n' := fun _ => tp_NC) (g' := fun u => tp_st u.2) (k' := fun _ => 0) (q' := fun _ => 0) (lv' := fun u => [some (.inr (.inr 483)), none, some (.inl x2), some (.inl x3), some (.inl x4), some (.inl u.1)]) (fun rec_ hrec u => T_X11_takesApart_106B G rec_62 rec_82 x2 x3 x4 hrec_62 hrec_82 (fun x5' M0' => rec_ (x5', M0')) (fun x5' M0' => hrec (x5', M0')) u.1 u.2) tp_N (x5, M0)
def f_X11_takesApart_82B (rec_62 : Int → Int → tp_M → Option (tp_M)) (x2 : Int) (x3 : Int) (rec_82 : Int → tp_M → Option (tp_M)) (x4 : Int) (M0 : tp_M) : Option (tp_M) :=
  if x2 ≤ x4 then
    f_X11_takesApart_146 rec_62 x2 x3 M0
  else
    if (M0 483 11) < x3 then
      f_X11_takesApart_146 rec_62 x2 x3 M0
    else
      (f_X11_laysTrial x4 x3 M0).bind fun r19 =>
      f_X11_takesApart_106 rec_62 rec_82 x2 x3 x4 0 r19
set_option maxHeartbeats 4000000 in
set_option maxRecDepth 100000 in
theorem T_X11_takesApart_82B (G : tp_G) (rec_62 : Int → Int → tp_M → Option (tp_M)) (x2 : Int) (x3 : Int) (hrec_62 : ∀ (x2' x3' : Int) (M' : tp_M), tp_J i_X11_takesApart (tp_rm 2) G 0 0 o_X11_takesApart tp_NC (tp_st M') 0 0 [some (.inr (.inr 483)), none, some (.inl (x2')), some (.inl (x3')), none, none] 62 [] (rec_62 x2' x3' M')) (rec_82 : Int → tp_M → Option (tp_M)) (hrec_82 : ∀ (x4' : Int) (M' : tp_M), tp_J i_X11_takesApart (tp_rm 2) G 0 0 o_X11_takesApart tp_NC (tp_st M') 0 0 [some (.inr (.inr 483)), none, some (.inl x2), some (.inl x3), some (.inl (x4')), none] 82 [] (rec_82 x4' M')) (x4 : Int) (M0 : tp_M) : tp_J i_X11_takesApart (tp_rm 2) G 0 0 o_X11_takesApart tp_NC (tp_st M0) 0 0 [some (.inr (.inr 483)), none, some (.inl x2), some (.inl x3), some (.inl x4), none] 82 [] (f_X11_takesApart_82B rec_62 x2 x3 rec_82 x4 M0) := by
  unfold f_X11_takesApart_82B
  refine j_iload d_X11_takesApart_82 rfl ?_
  refine j_iload_n rfl d_X11_takesApart_84 rfl ?_
  refine j_icmp_ge (tgt := 146) d_X11_takesApart_85 (by decide) (fun h16 => ?_) (fun h16 => ?_)
  · exact j_wk [true, false, true, true, false, false] rfl rfl (T_X11_takesApart_146 G rec_62 x2 x3 M0 hrec_62)
  · refine j_aload_n rfl d_X11_takesApart_88 rfl ?_
    refine j_geti fl_Model_265 tg_483 d_X11_takesApart_89 ?_
    refine j_iload_n rfl d_X11_takesApart_92 rfl ?_
    refine j_icmp_lt (tgt := 146) d_X11_takesApart_93 (by decide) (fun h18 => ?_) (fun h18 => ?_)
    · exact j_wk [true, false, true, true, false, false] rfl rfl (T_X11_takesApart_146 G rec_62 x2 x3 M0 hrec_62)
    · refine j_aload_n rfl d_X11_takesApart_96 rfl ?_
      refine j_iload d_X11_takesApart_97 rfl ?_
      refine j_iload_n rfl d_X11_takesApart_99 rfl ?_
      refine j_bind (fun r19 h20 => ?_)
      refine j_callV (y := y_X11_laysTrial) (I' := i_X11_laysTrial) (avs := [.inl x4, .inl x3]) (c := 483) (st := []) (c_X11_laysTrial G x4 x3 M0 r19 h20) cs_Model_281 wd_1372 wd_1374 ws_55 tg_483 rfl rfl rfl (Nat.le_of_ble_eq_true rfl) ⟨rfl, rfl⟩ ⟨by decide, by decide⟩ ⟨by decide, by decide⟩ d_X11_takesApart_100 ?_
      refine j_iconst ⟨by decide, by decide⟩ d_X11_takesApart_103 ?_
      refine j_istore (lv' := [some (.inr (.inr 483)), none, some (.inl x2), some (.inl x3), some (.inl x4), some (.inl 0)]) d_X11_takesApart_104 (Nat.le_of_ble_eq_true rfl) rfl ?_
      exact j_wk [true, false, true, true, true, true] rfl rfl (T_X11_takesApart_106 G rec_62 rec_82 x2 x3 x4 0 r19 hrec_62 hrec_82)
def f_X11_takesApart_82 (rec_62 : Int → Int → tp_M → Option (tp_M)) (x2 : Int) (x3 : Int) (x4 : Int) (M0 : tp_M) : Option (tp_M) := tp_lp (σ := Int × tp_M) (fun rec_ u => f_X11_takesApart_82B rec_62 x2 x3 (fun x4' M0' => rec_ (x4', M0')) u.1 u.2) tp_N (x4, M0)
set_option maxHeartbeats 4000000 in
set_option maxRecDepth 100000 in
theorem T_X11_takesApart_82 (G : tp_G) (rec_62 : Int → Int → tp_M → Option (tp_M)) (x2 : Int) (x3 : Int) (x4 : Int) (M0 : tp_M) (hrec_62 : ∀ (x2' x3' : Int) (M' : tp_M), tp_J i_X11_takesApart (tp_rm 2) G 0 0 o_X11_takesApart tp_NC (tp_st M') 0 0 [some (.inr (.inr 483)), none, some (.inl (x2')), some (.inl (x3')), none, none] 62 [] (rec_62 x2' x3' M')) : tp_J i_X11_takesApart (tp_rm 2) G 0 0 o_X11_takesApart tp_NC (tp_st M0) 0 0 [some (.inr (.inr 483)), none, some (.inl x2), some (.inl x3), some (.inl x4), none] 82 [] (f_X11_takesApart_82 rec_62 x2 x3 x4 M0) := by
  unfold f_X11_takesApart_82
  exact j_lp (σ := Int × tp_M) (n' := fun _ => tp_NC) (g' := fun u => tp_st u.2) (k' := fun _ => 0) (q' := fun _ => 0) (lv' := fun u => [some (.inr (.inr 483)), none, some (.inl x2), some (.inl x3), some (.inl u.1), none]) (fun rec_ hrec u => T_X11_takesApart_82B G rec_62 x2 x3 hrec_62 (fun x4' M0' => rec_ (x4', M0')) (fun x4' M0' => hrec (x4', M0')) u.1 u.2) tp_N (x4, M0)
def f_X11_takesApart_62B (rec_62 : Int → Int → tp_M → Option (tp_M)) (x2 : Int) (x3 : Int) (M0 : tp_M) : Option (tp_M) :=
  if (M0 483 11) < (tp_w (2 * x3)) then
    if (M0 483 11) ≤ 0 then
      some M0
    else
      f_X11_takesApart_161 0 M0
  else
    tp_lt ((tp_w (x2 * (M0 483 0)))) fun y15 =>
    f_X11_takesApart_82 rec_62 y15 x3 0 M0
set_option maxHeartbeats 4000000 in
set_option maxRecDepth 100000 in
theorem T_X11_takesApart_62B (G : tp_G) (rec_62 : Int → Int → tp_M → Option (tp_M)) (hrec_62 : ∀ (x2' x3' : Int) (M' : tp_M), tp_J i_X11_takesApart (tp_rm 2) G 0 0 o_X11_takesApart tp_NC (tp_st M') 0 0 [some (.inr (.inr 483)), none, some (.inl (x2')), some (.inl (x3')), none, none] 62 [] (rec_62 x2' x3' M')) (x2 : Int) (x3 : Int) (M0 : tp_M) : tp_J i_X11_takesApart (tp_rm 2) G 0 0 o_X11_takesApart tp_NC (tp_st M0) 0 0 [some (.inr (.inr 483)), none, some (.inl x2), some (.inl x3), none, none] 62 [] (f_X11_takesApart_62B rec_62 x2 x3 M0) := by
  unfold f_X11_takesApart_62B
  refine j_iconst ⟨by decide, by decide⟩ d_X11_takesApart_62 ?_
  refine j_iload_n rfl d_X11_takesApart_63 rfl ?_
  refine j_imul d_X11_takesApart_64 ?_
  refine j_aload_n rfl d_X11_takesApart_65 rfl ?_
  refine j_geti fl_Model_265 tg_483 d_X11_takesApart_66 ?_
  refine j_icmp_gt (tgt := 152) d_X11_takesApart_69 (by decide) (fun h7 => ?_) (fun h7 => ?_)
  · refine j_aload_n rfl d_X11_takesApart_152 rfl ?_
    refine j_geti fl_Model_265 tg_483 d_X11_takesApart_153 ?_
    refine j_if_le (tgt := 206) d_X11_takesApart_156 (by decide) (fun h8 => ?_) (fun h8 => ?_)
    · exact j_vret d_X11_takesApart_206 rfl rfl ⟨rfl, rfl⟩
    · refine j_iconst ⟨by decide, by decide⟩ d_X11_takesApart_159 ?_
      refine j_istore_n (lv' := [some (.inr (.inr 483)), none, some (.inl x2), some (.inl 0), none, none]) rfl d_X11_takesApart_160 (Nat.le_of_ble_eq_true rfl) rfl ?_
      exact j_wk [true, false, false, true, false, false] rfl rfl (T_X11_takesApart_161 G 0 M0)
  · refine j_iload_n rfl d_X11_takesApart_72 rfl ?_
    refine j_aload_n rfl d_X11_takesApart_73 rfl ?_
    refine j_geti fl_Model_168 tg_483 d_X11_takesApart_74 ?_
    refine j_imul d_X11_takesApart_77 ?_
    refine j_nmI (fun y15 hy15 => ?_)
    refine j_istore_n (lv' := [some (.inr (.inr 483)), none, some (.inl y15), some (.inl x3), none, none]) rfl d_X11_takesApart_78 (Nat.le_of_ble_eq_true rfl) rfl ?_
    refine j_iconst ⟨by decide, by decide⟩ d_X11_takesApart_79 ?_
    refine j_istore (lv' := [some (.inr (.inr 483)), none, some (.inl y15), some (.inl x3), some (.inl 0), none]) d_X11_takesApart_80 (Nat.le_of_ble_eq_true rfl) rfl ?_
    exact j_wk [true, false, true, true, true, false] rfl rfl (T_X11_takesApart_82 G rec_62 y15 x3 0 M0 hrec_62)
def f_X11_takesApart_62 (x2 : Int) (x3 : Int) (M0 : tp_M) : Option (tp_M) := tp_lp (σ := Int × Int × tp_M) (fun rec_ u => f_X11_takesApart_62B (fun x2' x3' M0' => rec_ (x2', x3', M0')) u.1 u.2.1 u.2.2) tp_N (x2, x3, M0)
set_option maxHeartbeats 4000000 in
set_option maxRecDepth 100000 in
theorem T_X11_takesApart_62 (G : tp_G) (x2 : Int) (x3 : Int) (M0 : tp_M) : tp_J i_X11_takesApart (tp_rm 2) G 0 0 o_X11_takesApart tp_NC (tp_st M0) 0 0 [some (.inr (.inr 483)), none, some (.inl x2), some (.inl x3), none, none] 62 [] (f_X11_takesApart_62 x2 x3 M0) := by
  unfold f_X11_takesApart_62
  exact j_lp (σ := Int × Int × tp_M) (n' := fun _ => tp_NC) (g' := fun u => tp_st u.2.2) (k' := fun _ => 0) (q' := fun _ => 0) (lv' := fun u => [some (.inr (.inr 483)), none, some (.inl u.1), some (.inl u.2.1), none, none]) (fun rec_ hrec u => T_X11_takesApart_62B G (fun x2' x3' M0' => rec_ (x2', x3', M0')) (fun x2' x3' M0' => hrec (x2', x3', M0')) u.1 u.2.1 u.2.2) tp_N (x2, x3, M0)
def f_X11_takesApart_25B (x1 : Int) (rec_25 : Int → tp_M → Option (tp_M)) (x2 : Int) (M0 : tp_M) : Option (tp_M) :=
  if (M0 483 11) < x2 then
    f_X11_takesApart_62 1 1 M0
  else
    if 0 ≤ x2 ∧ x2 < 9 then
      if (M0 483 0) = 0 then none else
        if 0 ≤ x2 ∧ x2 < 9 then
          tp_mp (tp_up M0 489 x2 (Int.tmod (tp_w ((M0 489 x2) * x1)) (M0 483 0))) fun M30 =>
          tp_lt (tp_w (x2 + 1)) fun y31 =>
          rec_25 y31 M30 else none else none
set_option maxHeartbeats 4000000 in
set_option maxRecDepth 100000 in
theorem T_X11_takesApart_25B (G : tp_G) (x1 : Int) (rec_25 : Int → tp_M → Option (tp_M)) (hrec_25 : ∀ (x2' : Int) (M' : tp_M), tp_J i_X11_takesApart (tp_rm 2) G 0 0 o_X11_takesApart tp_NC (tp_st M') 0 0 [some (.inr (.inr 483)), some (.inl x1), some (.inl (x2')), none, none, none] 25 [] (rec_25 x2' M')) (x2 : Int) (M0 : tp_M) : tp_J i_X11_takesApart (tp_rm 2) G 0 0 o_X11_takesApart tp_NC (tp_st M0) 0 0 [some (.inr (.inr 483)), some (.inl x1), some (.inl x2), none, none, none] 25 [] (f_X11_takesApart_25B x1 rec_25 x2 M0) := by
  unfold f_X11_takesApart_25B
  refine j_iload_n rfl d_X11_takesApart_25 rfl ?_
  refine j_aload_n rfl d_X11_takesApart_26 rfl ?_
  refine j_geti fl_Model_265 tg_483 d_X11_takesApart_27 ?_
  refine j_icmp_gt (tgt := 58) d_X11_takesApart_30 (by decide) (fun h6 => ?_) (fun h6 => ?_)
  · refine j_iconst ⟨by decide, by decide⟩ d_X11_takesApart_58 ?_
    refine j_istore_n (lv' := [some (.inr (.inr 483)), some (.inl x1), some (.inl 1), none, none, none]) rfl d_X11_takesApart_59 (Nat.le_of_ble_eq_true rfl) rfl ?_
    refine j_iconst ⟨by decide, by decide⟩ d_X11_takesApart_60 ?_
    refine j_istore_n (lv' := [some (.inr (.inr 483)), some (.inl x1), some (.inl 1), some (.inl 1), none, none]) rfl d_X11_takesApart_61 (Nat.le_of_ble_eq_true rfl) rfl ?_
    exact j_wk [true, false, true, true, false, false] rfl rfl (T_X11_takesApart_62 G 1 1 M0)
  · refine j_aload_n rfl d_X11_takesApart_33 rfl ?_
    refine j_getr fl_Model_26 tg_483 rv_483_10 d_X11_takesApart_34 ?_
    refine j_iload_n rfl d_X11_takesApart_37 rfl ?_
    refine j_aload_n rfl d_X11_takesApart_38 rfl ?_
    refine j_getr fl_Model_26 tg_483 rv_483_10 d_X11_takesApart_39 ?_
    refine j_iload_n rfl d_X11_takesApart_42 rfl ?_
    refine j_iald tg_489 al_489 d_X11_takesApart_43 ?_
    refine j_iload_n rfl d_X11_takesApart_44 rfl ?_
    refine j_imul d_X11_takesApart_45 ?_
    refine j_aload_n rfl d_X11_takesApart_46 rfl ?_
    refine j_geti fl_Model_168 tg_483 d_X11_takesApart_47 ?_
    refine j_irem d_X11_takesApart_50 ?_
    refine j_iast tg_489 al_489 d_X11_takesApart_51 (fun M30 hM30 => ?_)
    refine j_iincN (lv' := fun y31 => [some (.inr (.inr 483)), some (.inl x1), some (.inl y31), none, none, none]) d_X11_takesApart_52 rfl (Nat.le_of_ble_eq_true rfl) (fun _ => rfl) (fun y31 hy31 => ?_)
    refine j_goto (tgt := 25) d_X11_takesApart_55 (by decide) ?_
    exact j_wk [true, true, true, false, false, false] rfl rfl (hrec_25 y31 M30)
def f_X11_takesApart_25 (x1 : Int) (x2 : Int) (M0 : tp_M) : Option (tp_M) := tp_lp (σ := Int × tp_M) (fun rec_ u => f_X11_takesApart_25B x1 (fun x2' M0' => rec_ (x2', M0')) u.1 u.2) tp_N (x2, M0)
set_option maxHeartbeats 4000000 in
set_option maxRecDepth 100000 in
theorem T_X11_takesApart_25 (G : tp_G) (x1 : Int) (x2 : Int) (M0 : tp_M) : tp_J i_X11_takesApart (tp_rm 2) G 0 0 o_X11_takesApart tp_NC (tp_st M0) 0 0 [some (.inr (.inr 483)), some (.inl x1), some (.inl x2), none, none, none] 25 [] (f_X11_takesApart_25 x1 x2 M0) := by
  unfold f_X11_takesApart_25
  exact j_lp (σ := Int × tp_M) (n' := fun _ => tp_NC) (g' := fun u => tp_st u.2) (k' := fun _ => 0) (q' := fun _ => 0) (lv' := fun u => [some (.inr (.inr 483)), some (.inl x1), some (.inl u.1), none, none, none]) (fun rec_ hrec u => T_X11_takesApart_25B G x1 (fun x2' M0' => rec_ (x2', M0')) (fun x2' M0' => hrec (x2', M0')) u.1 u.2) tp_N (x2, M0)
def f_X11_takesApart (M0 : tp_M) : Option (tp_M) :=
  tp_mp (tp_up M0 483 12 0) fun M1 =>
  (f_X11_measures M1).bind fun r2 =>
  if 0 ≤ (r2 483 11) ∧ (r2 483 11) < 9 then
    (f_X11_inverse (r2 489 (r2 483 11)) r2).bind fun r4 =>
    f_X11_takesApart_25 r4 0 r2 else none
set_option maxHeartbeats 4000000 in
set_option maxRecDepth 100000 in
theorem T_X11_takesApart (G : tp_G) (M0 : tp_M) : tp_J i_X11_takesApart (tp_rm 2) G 0 0 o_X11_takesApart tp_NC (tp_st M0) 0 0 [some (.inr (.inr 483)), none, none, none, none, none] 0 [] (f_X11_takesApart M0) := by
  unfold f_X11_takesApart
  refine j_aload_n rfl d_X11_takesApart_0 rfl ?_
  refine j_iconst ⟨by decide, by decide⟩ d_X11_takesApart_1 ?_
  refine j_put (z := 0) (v := 0) fl_Model_272 (by decide) tg_483 (pf_11_12 _) pt_11 d_X11_takesApart_2 (fun M1 hM1 => ?_)
  refine j_aload_n rfl d_X11_takesApart_5 rfl ?_
  refine j_bind (fun r2 h3 => ?_)
  refine j_callV (y := y_X11_measures) (I' := i_X11_measures) (avs := []) (c := 483) (st := []) (c_X11_measures G M1 r2 h3) cs_Model_275 wd_1360 wd_1362 ws_52 tg_483 rfl rfl rfl (Nat.le_of_ble_eq_true rfl) ⟨rfl, rfl⟩ ⟨by decide, by decide⟩ ⟨by decide, by decide⟩ d_X11_takesApart_6 ?_
  refine j_aload_n rfl d_X11_takesApart_9 rfl ?_
  refine j_aload_n rfl d_X11_takesApart_10 rfl ?_
  refine j_getr fl_Model_26 tg_483 rv_483_10 d_X11_takesApart_11 ?_
  refine j_aload_n rfl d_X11_takesApart_14 rfl ?_
  refine j_geti fl_Model_265 tg_483 d_X11_takesApart_15 ?_
  refine j_iald tg_489 al_489 d_X11_takesApart_18 ?_
  refine j_bind (fun r4 h5 => ?_)
  refine j_callV (y := y_X11_inverse) (I' := i_X11_inverse) (avs := [.inl (r2 489 (r2 483 11))]) (c := 483) (st := []) (c_X11_inverse G (r2 489 (r2 483 11)) r2 r4 h5) cs_Model_278 wd_1368 wd_1370 ws_54 tg_483 rfl rfl rfl (Nat.le_of_ble_eq_true rfl) ⟨rfl, rfl⟩ ⟨by decide, by decide⟩ ⟨by decide, by decide⟩ d_X11_takesApart_19 ?_
  refine j_istore_n (lv' := [some (.inr (.inr 483)), some (.inl r4), none, none, none, none]) rfl d_X11_takesApart_22 (Nat.le_of_ble_eq_true rfl) rfl ?_
  refine j_iconst ⟨by decide, by decide⟩ d_X11_takesApart_23 ?_
  refine j_istore_n (lv' := [some (.inr (.inr 483)), some (.inl r4), some (.inl 0), none, none, none]) rfl d_X11_takesApart_24 (Nat.le_of_ble_eq_true rfl) rfl ?_
  exact j_wk [true, true, true, false, false, false] rfl rfl (T_X11_takesApart_25 G r4 0 r2)
set_option maxHeartbeats 4000000 in
set_option maxRecDepth 100000 in
theorem c_X11_takesApart (G : tp_G) (M0 : tp_M) (r : tp_M) (h : f_X11_takesApart M0 = some r) (l : Launch) : Met l y_X11_takesApart (tp_ws y_X11_takesApart i_X11_takesApart) (tp_rm 2) (tp_Pc G [.inr (.inr 483)] tp_NC (tp_st M0)) (tp_Q G (o_X11_takesApart r)) 0 0 (tp_A G) :=
  tp_met (I := i_X11_takesApart) (y := y_X11_takesApart) (by decide +kernel) (Eq.refl "TypesAtPrimeModel") (Eq.refl "takesApart") (lv := [some (.inr (.inr 483)), none, none, none, none, none]) rfl (Nat.le_of_ble_eq_true rfl) (T_X11_takesApart G M0) h l
def y_X11_laysResidues : MethodName := ⟨"TypesAtPrimeModel", "laysResidues", "(I)Z"⟩
abbrev i_X11_laysResidues : tp_I := (prog_13_method_38_code, "TypesAtPrimeModel", (some .boolean), 3, "laysResidues")
abbrev o_X11_laysResidues : Int × tp_M → tp_O := fun r => (some (.inl r.1), tp_NC, tp_st r.2)
theorem d_X11_laysResidues_0 : decode prog_13_method_38_code 0 = .ok (.iconst 0, 1) := by decide +kernel
theorem d_X11_laysResidues_1 : decode prog_13_method_38_code 1 = .ok (.istore_n 2, 1) := by decide +kernel
theorem d_X11_laysResidues_2 : decode prog_13_method_38_code 2 = .ok (.iload_n 2, 1) := by decide +kernel
theorem d_X11_laysResidues_3 : decode prog_13_method_38_code 3 = .ok (.bipush 9, 2) := by decide +kernel
theorem d_X11_laysResidues_5 : decode prog_13_method_38_code 5 = .ok (.if_icmp .ge 26, 3) := by decide +kernel
theorem d_X11_laysResidues_8 : decode prog_13_method_38_code 8 = .ok (.aload_n 0, 1) := by decide +kernel
theorem d_X11_laysResidues_9 : decode prog_13_method_38_code 9 = .ok (.getfield 26, 3) := by decide +kernel
theorem d_X11_laysResidues_12 : decode prog_13_method_38_code 12 = .ok (.iload_n 2, 1) := by decide +kernel
theorem d_X11_laysResidues_13 : decode prog_13_method_38_code 13 = .ok (.aload_n 0, 1) := by decide +kernel
theorem d_X11_laysResidues_14 : decode prog_13_method_38_code 14 = .ok (.aload_n 0, 1) := by decide +kernel
theorem d_X11_laysResidues_15 : decode prog_13_method_38_code 15 = .ok (.iload_n 1, 1) := by decide +kernel
theorem d_X11_laysResidues_16 : decode prog_13_method_38_code 16 = .ok (.iload_n 2, 1) := by decide +kernel
theorem d_X11_laysResidues_17 : decode prog_13_method_38_code 17 = .ok (.invokevirtual 183, 3) := by decide +kernel
theorem d_X11_laysResidues_20 : decode prog_13_method_38_code 20 = .ok (.i2l, 1) := by decide +kernel
theorem d_X11_laysResidues_21 : decode prog_13_method_38_code 21 = .ok (.invokevirtual 268, 3) := by decide +kernel
theorem d_X11_laysResidues_24 : decode prog_13_method_38_code 24 = .ok (.iastore, 1) := by decide +kernel
theorem d_X11_laysResidues_25 : decode prog_13_method_38_code 25 = .ok (.iinc 2 1, 3) := by decide +kernel
theorem d_X11_laysResidues_28 : decode prog_13_method_38_code 28 = .ok (.goto (-26), 3) := by decide +kernel
theorem d_X11_laysResidues_31 : decode prog_13_method_38_code 31 = .ok (.aload_n 0, 1) := by decide +kernel
theorem d_X11_laysResidues_32 : decode prog_13_method_38_code 32 = .ok (.invokevirtual 275, 3) := by decide +kernel
theorem d_X11_laysResidues_35 : decode prog_13_method_38_code 35 = .ok (.aload_n 0, 1) := by decide +kernel
theorem d_X11_laysResidues_36 : decode prog_13_method_38_code 36 = .ok (.getfield 265, 3) := by decide +kernel
theorem d_X11_laysResidues_39 : decode prog_13_method_38_code 39 = .ok (.ifCond .lt 7, 3) := by decide +kernel
theorem d_X11_laysResidues_42 : decode prog_13_method_38_code 42 = .ok (.iconst 1, 1) := by decide +kernel
theorem d_X11_laysResidues_43 : decode prog_13_method_38_code 43 = .ok (.goto 4, 3) := by decide +kernel
theorem d_X11_laysResidues_46 : decode prog_13_method_38_code 46 = .ok (.iconst 0, 1) := by decide +kernel
theorem d_X11_laysResidues_47 : decode prog_13_method_38_code 47 = .ok (.ireturn, 1) := by decide +kernel
def f_X11_laysResidues_2B (x1 : Int) (rec_2 : Int → tp_M → Option (Int × tp_M)) (x2 : Int) (M0 : tp_M) : Option (Int × tp_M) :=
  if 9 ≤ x2 then
    (f_X11_measures M0).bind fun r2 =>
    if (r2 483 11) < 0 then
      some (0, r2)
    else
      some (1, r2)
  else
    (f_X11_coefficient x1 x2 M0).bind fun r5 =>
    (f_X11_residue r5 M0).bind fun r7 =>
    if 0 ≤ x2 ∧ x2 < 9 then
      tp_mp (tp_up M0 489 x2 r7) fun M9 =>
      tp_lt (tp_w (x2 + 1)) fun y10 =>
      rec_2 y10 M9 else none
set_option maxHeartbeats 4000000 in
set_option maxRecDepth 100000 in
theorem T_X11_laysResidues_2B (G : tp_G) (x1 : Int) (rec_2 : Int → tp_M → Option (Int × tp_M)) (hrec_2 : ∀ (x2' : Int) (M' : tp_M), tp_J i_X11_laysResidues (tp_rm 1) G 0 0 o_X11_laysResidues tp_NC (tp_st M') 0 0 [some (.inr (.inr 483)), some (.inl x1), some (.inl (x2'))] 2 [] (rec_2 x2' M')) (x2 : Int) (M0 : tp_M) : tp_J i_X11_laysResidues (tp_rm 1) G 0 0 o_X11_laysResidues tp_NC (tp_st M0) 0 0 [some (.inr (.inr 483)), some (.inl x1), some (.inl x2)] 2 [] (f_X11_laysResidues_2B x1 rec_2 x2 M0) := by
  unfold f_X11_laysResidues_2B
  refine j_iload_n rfl d_X11_laysResidues_2 rfl ?_
  refine j_bipush ⟨by decide, by decide⟩ (by decide +kernel) d_X11_laysResidues_3 ?_
  refine j_icmp_ge (tgt := 31) d_X11_laysResidues_5 (by decide) (fun h1 => ?_) (fun h1 => ?_)
  · refine j_aload_n rfl d_X11_laysResidues_31 rfl ?_
    refine j_bind (fun r2 h3 => ?_)
    refine j_callV (y := y_X11_measures) (I' := i_X11_measures) (avs := []) (c := 483) (st := []) (c_X11_measures G M0 r2 h3) cs_Model_275 wd_1360 wd_1362 ws_52 tg_483 rfl rfl rfl (Nat.le_of_ble_eq_true rfl) ⟨rfl, rfl⟩ ⟨by decide, by decide⟩ ⟨by decide, by decide⟩ d_X11_laysResidues_32 ?_
    refine j_aload_n rfl d_X11_laysResidues_35 rfl ?_
    refine j_geti fl_Model_265 tg_483 d_X11_laysResidues_36 ?_
    refine j_if_lt (tgt := 46) d_X11_laysResidues_39 (by decide) (fun h4 => ?_) (fun h4 => ?_)
    · refine j_iconst ⟨by decide, by decide⟩ d_X11_laysResidues_46 ?_
      exact j_zret d_X11_laysResidues_47 rfl (Or.inl rfl) rfl ⟨rfl, rfl⟩
    · refine j_iconst ⟨by decide, by decide⟩ d_X11_laysResidues_42 ?_
      refine j_goto (tgt := 47) d_X11_laysResidues_43 (by decide) ?_
      exact j_zret d_X11_laysResidues_47 rfl (Or.inr rfl) rfl ⟨rfl, rfl⟩
  · refine j_aload_n rfl d_X11_laysResidues_8 rfl ?_
    refine j_getr fl_Model_26 tg_483 rv_483_10 d_X11_laysResidues_9 ?_
    refine j_iload_n rfl d_X11_laysResidues_12 rfl ?_
    refine j_aload_n rfl d_X11_laysResidues_13 rfl ?_
    refine j_aload_n rfl d_X11_laysResidues_14 rfl ?_
    refine j_iload_n rfl d_X11_laysResidues_15 rfl ?_
    refine j_iload_n rfl d_X11_laysResidues_16 rfl ?_
    refine j_bind (fun r5 h6 => ?_)
    refine j_callV (y := y_X11_coefficient) (I' := i_X11_coefficient) (avs := [.inl x1, .inl x2]) (c := 483) (st := [.inr (.inr 483), .inl x2, .inr (.inr 489)]) (c_X11_coefficient G x1 x2 M0 r5 h6) cs_Model_183 wd_1294 wd_1296 ws_46 tg_483 rfl rfl rfl (Nat.le_of_ble_eq_true rfl) ⟨rfl, rfl⟩ ⟨by decide, by decide⟩ ⟨by decide, by decide⟩ d_X11_laysResidues_17 ?_
    refine j_i2l d_X11_laysResidues_20 ?_
    refine j_bind (fun r7 h8 => ?_)
    refine j_callV (y := y_X11_residue) (I' := i_X11_residue) (avs := [.inr (.inl r5)]) (c := 483) (st := [.inl x2, .inr (.inr 489)]) (c_X11_residue G r5 M0 r7 h8) cs_Model_268 wd_1356 wd_1358 ws_51 tg_483 rfl rfl rfl (Nat.le_of_ble_eq_true rfl) ⟨rfl, rfl⟩ ⟨by decide, by decide⟩ ⟨by decide, by decide⟩ d_X11_laysResidues_21 ?_
    refine j_iast tg_489 al_489 d_X11_laysResidues_24 (fun M9 hM9 => ?_)
    refine j_iincN (lv' := fun y10 => [some (.inr (.inr 483)), some (.inl x1), some (.inl y10)]) d_X11_laysResidues_25 rfl (Nat.le_of_ble_eq_true rfl) (fun _ => rfl) (fun y10 hy10 => ?_)
    refine j_goto (tgt := 2) d_X11_laysResidues_28 (by decide) ?_
    exact j_wk [true, true, true] rfl rfl (hrec_2 y10 M9)
def f_X11_laysResidues_2 (x1 : Int) (x2 : Int) (M0 : tp_M) : Option (Int × tp_M) := tp_lp (σ := Int × tp_M) (fun rec_ u => f_X11_laysResidues_2B x1 (fun x2' M0' => rec_ (x2', M0')) u.1 u.2) tp_N (x2, M0)
set_option maxHeartbeats 4000000 in
set_option maxRecDepth 100000 in
theorem T_X11_laysResidues_2 (G : tp_G) (x1 : Int) (x2 : Int) (M0 : tp_M) : tp_J i_X11_laysResidues (tp_rm 1) G 0 0 o_X11_laysResidues tp_NC (tp_st M0) 0 0 [some (.inr (.inr 483)), some (.inl x1), some (.inl x2)] 2 [] (f_X11_laysResidues_2 x1 x2 M0) := by
  unfold f_X11_laysResidues_2
  exact j_lp (σ := Int × tp_M) (n' := fun _ => tp_NC) (g' := fun u => tp_st u.2) (k' := fun _ => 0) (q' := fun _ => 0) (lv' := fun u => [some (.inr (.inr 483)), some (.inl x1), some (.inl u.1)]) (fun rec_ hrec u => T_X11_laysResidues_2B G x1 (fun x2' M0' => rec_ (x2', M0')) (fun x2' M0' => hrec (x2', M0')) u.1 u.2) tp_N (x2, M0)
def f_X11_laysResidues (a0 : Int) (M0 : tp_M) : Option (Int × tp_M) :=
  f_X11_laysResidues_2 a0 0 M0
set_option maxHeartbeats 4000000 in
set_option maxRecDepth 100000 in
theorem T_X11_laysResidues (G : tp_G) (a0 : Int) (M0 : tp_M) : tp_J i_X11_laysResidues (tp_rm 1) G 0 0 o_X11_laysResidues tp_NC (tp_st M0) 0 0 [some (.inr (.inr 483)), some (.inl a0), none] 0 [] (f_X11_laysResidues a0 M0) := by
  unfold f_X11_laysResidues
  refine j_iconst ⟨by decide, by decide⟩ d_X11_laysResidues_0 ?_
  refine j_istore_n (lv' := [some (.inr (.inr 483)), some (.inl a0), some (.inl 0)]) rfl d_X11_laysResidues_1 (Nat.le_of_ble_eq_true rfl) rfl ?_
  exact j_wk [true, true, true] rfl rfl (T_X11_laysResidues_2 G a0 0 M0)
set_option maxHeartbeats 4000000 in
set_option maxRecDepth 100000 in
theorem c_X11_laysResidues (G : tp_G) (a0 : Int) (M0 : tp_M) (r : Int × tp_M) (h : f_X11_laysResidues a0 M0 = some r) (l : Launch) : Met l y_X11_laysResidues (tp_ws y_X11_laysResidues i_X11_laysResidues) (tp_rm 1) (tp_Pc G [.inr (.inr 483), .inl a0] tp_NC (tp_st M0)) (tp_Q G (o_X11_laysResidues r)) 0 0 (tp_A G) :=
  tp_met (I := i_X11_laysResidues) (y := y_X11_laysResidues) (by decide +kernel) (Eq.refl "TypesAtPrimeModel") (Eq.refl "laysResidues") (lv := [some (.inr (.inr 483)), some (.inl a0), none]) rfl (Nat.le_of_ble_eq_true rfl) (T_X11_laysResidues G a0 M0) h l
theorem wd_1350 : (.constantLong "TypesAtPrimeModel" 290 (-3) : Cond) ∈ lw_tbl := List.mem_append_right _ (List.mem_of_getElem? (i := 1350) (by decide +kernel))
theorem wd_1351 : (.constantLong "TypesAtPrimeModel" 292 8 : Cond) ∈ lw_tbl := List.mem_append_right _ (List.mem_of_getElem? (i := 1351) (by decide +kernel))
theorem wd_1355 : (.code ⟨"TypesAtPrimeModel", "laysResidues", "(I)Z"⟩ prog_13_method_38_code 3 (some .boolean) : Cond) ∈ lw_tbl := List.mem_append_right _ (List.mem_of_getElem? (i := 1355) (by decide +kernel))
theorem cs_Model_294 : tp_CS "TypesAtPrimeModel" 294 y_X11_laysResidues i_X11_laysResidues 1 := ⟨wd_1355, wd_12, by decide, by decide, by decide +kernel⟩
theorem wd_1352 : (.methodLink "TypesAtPrimeModel" 294 ⟨"TypesAtPrimeModel", "laysResidues", "(I)Z"⟩ : Cond) ∈ lw_tbl := List.mem_append_right _ (List.mem_of_getElem? (i := 1352) (by decide +kernel))
theorem wd_1354 : (.instanceMethod ⟨"TypesAtPrimeModel", "laysResidues", "(I)Z"⟩ : Cond) ∈ lw_tbl := List.mem_append_right _ (List.mem_of_getElem? (i := 1354) (by decide +kernel))
theorem ws_50 : (.selects "TypesAtPrimeModel" ⟨"TypesAtPrimeModel", "laysResidues", "(I)Z"⟩ ⟨"TypesAtPrimeModel", "laysResidues", "(I)Z"⟩ : Cond) ∈ lw_tbl := List.mem_append_left _ (List.mem_of_getElem? (i := 50) (by decide +kernel))
theorem wd_1367 : (.code ⟨"TypesAtPrimeModel", "takesApart", "()V"⟩ prog_13_method_37_code 6 (none : Option Jvm.ClassFile.FieldType) : Cond) ∈ lw_tbl := List.mem_append_right _ (List.mem_of_getElem? (i := 1367) (by decide +kernel))
theorem cs_Model_297 : tp_CS "TypesAtPrimeModel" 297 y_X11_takesApart i_X11_takesApart 0 := ⟨wd_1367, wd_12, by decide, by decide, by decide +kernel⟩
theorem wd_1364 : (.methodLink "TypesAtPrimeModel" 297 ⟨"TypesAtPrimeModel", "takesApart", "()V"⟩ : Cond) ∈ lw_tbl := List.mem_append_right _ (List.mem_of_getElem? (i := 1364) (by decide +kernel))
theorem wd_1366 : (.instanceMethod ⟨"TypesAtPrimeModel", "takesApart", "()V"⟩ : Cond) ∈ lw_tbl := List.mem_append_right _ (List.mem_of_getElem? (i := 1366) (by decide +kernel))
theorem ws_53 : (.selects "TypesAtPrimeModel" ⟨"TypesAtPrimeModel", "takesApart", "()V"⟩ ⟨"TypesAtPrimeModel", "takesApart", "()V"⟩ : Cond) ∈ lw_tbl := List.mem_append_left _ (List.mem_of_getElem? (i := 53) (by decide +kernel))
def y_X11_factor : MethodName := ⟨"TypesAtPrimeModel", "factor", "(III)J"⟩
abbrev i_X11_factor : tp_I := (prog_13_method_39_code, "TypesAtPrimeModel", (some .long), 4, "factor")
abbrev o_X11_factor : Int × tp_M → tp_O := fun r => (some (.inr (.inl r.1)), tp_NC, tp_st r.2)
theorem d_X11_factor_0 : decode prog_13_method_39_code 0 = .ok (.iload_n 1, 1) := by decide +kernel
theorem d_X11_factor_1 : decode prog_13_method_39_code 1 = .ok (.invokestatic 231, 3) := by decide +kernel
theorem d_X11_factor_4 : decode prog_13_method_39_code 4 = .ok (.ifCond .eq 25, 3) := by decide +kernel
theorem d_X11_factor_7 : decode prog_13_method_39_code 7 = .ok (.iload_n 3, 1) := by decide +kernel
theorem d_X11_factor_8 : decode prog_13_method_39_code 8 = .ok (.i2l, 1) := by decide +kernel
theorem d_X11_factor_9 : decode prog_13_method_39_code 9 = .ok (.ldc2_w 290, 3) := by decide +kernel
theorem d_X11_factor_12 : decode prog_13_method_39_code 12 = .ok (.ldc2_w 292, 3) := by decide +kernel
theorem d_X11_factor_15 : decode prog_13_method_39_code 15 = .ok (.invokestatic 193, 3) := by decide +kernel
theorem d_X11_factor_18 : decode prog_13_method_39_code 18 = .ok (.ifCond .eq 11, 3) := by decide +kernel
theorem d_X11_factor_21 : decode prog_13_method_39_code 21 = .ok (.aload_n 0, 1) := by decide +kernel
theorem d_X11_factor_22 : decode prog_13_method_39_code 22 = .ok (.iload_n 1, 1) := by decide +kernel
theorem d_X11_factor_23 : decode prog_13_method_39_code 23 = .ok (.invokevirtual 294, 3) := by decide +kernel
theorem d_X11_factor_26 : decode prog_13_method_39_code 26 = .ok (.ifCond .ne 7, 3) := by decide +kernel
theorem d_X11_factor_29 : decode prog_13_method_39_code 29 = .ok (.ldc2_w 246, 3) := by decide +kernel
theorem d_X11_factor_32 : decode prog_13_method_39_code 32 = .ok (.lreturn, 1) := by decide +kernel
theorem d_X11_factor_33 : decode prog_13_method_39_code 33 = .ok (.aload_n 0, 1) := by decide +kernel
theorem d_X11_factor_34 : decode prog_13_method_39_code 34 = .ok (.invokevirtual 297, 3) := by decide +kernel
theorem d_X11_factor_37 : decode prog_13_method_39_code 37 = .ok (.iload_n 3, 1) := by decide +kernel
theorem d_X11_factor_38 : decode prog_13_method_39_code 38 = .ok (.iconst (-1), 1) := by decide +kernel
theorem d_X11_factor_39 : decode prog_13_method_39_code 39 = .ok (.if_icmp .ne 9, 3) := by decide +kernel
theorem d_X11_factor_42 : decode prog_13_method_39_code 42 = .ok (.aload_n 0, 1) := by decide +kernel
theorem d_X11_factor_43 : decode prog_13_method_39_code 43 = .ok (.getfield 272, 3) := by decide +kernel
theorem d_X11_factor_46 : decode prog_13_method_39_code 46 = .ok (.i2l, 1) := by decide +kernel
theorem d_X11_factor_47 : decode prog_13_method_39_code 47 = .ok (.lreturn, 1) := by decide +kernel
theorem d_X11_factor_48 : decode prog_13_method_39_code 48 = .ok (.iload_n 2, 1) := by decide +kernel
theorem d_X11_factor_49 : decode prog_13_method_39_code 49 = .ok (.i2l, 1) := by decide +kernel
theorem d_X11_factor_50 : decode prog_13_method_39_code 50 = .ok (.lconst 0, 1) := by decide +kernel
theorem d_X11_factor_51 : decode prog_13_method_39_code 51 = .ok (.aload_n 0, 1) := by decide +kernel
theorem d_X11_factor_52 : decode prog_13_method_39_code 52 = .ok (.getfield 272, 3) := by decide +kernel
theorem d_X11_factor_55 : decode prog_13_method_39_code 55 = .ok (.iconst 1, 1) := by decide +kernel
theorem d_X11_factor_56 : decode prog_13_method_39_code 56 = .ok (.isub, 1) := by decide +kernel
theorem d_X11_factor_57 : decode prog_13_method_39_code 57 = .ok (.i2l, 1) := by decide +kernel
theorem d_X11_factor_58 : decode prog_13_method_39_code 58 = .ok (.invokestatic 193, 3) := by decide +kernel
theorem d_X11_factor_61 : decode prog_13_method_39_code 61 = .ok (.ifCond .ne 7, 3) := by decide +kernel
theorem d_X11_factor_64 : decode prog_13_method_39_code 64 = .ok (.ldc2_w 246, 3) := by decide +kernel
theorem d_X11_factor_67 : decode prog_13_method_39_code 67 = .ok (.lreturn, 1) := by decide +kernel
theorem d_X11_factor_68 : decode prog_13_method_39_code 68 = .ok (.iload_n 3, 1) := by decide +kernel
theorem d_X11_factor_69 : decode prog_13_method_39_code 69 = .ok (.bipush (-2), 2) := by decide +kernel
theorem d_X11_factor_71 : decode prog_13_method_39_code 71 = .ok (.if_icmp .ne 13, 3) := by decide +kernel
theorem d_X11_factor_74 : decode prog_13_method_39_code 74 = .ok (.aload_n 0, 1) := by decide +kernel
theorem d_X11_factor_75 : decode prog_13_method_39_code 75 = .ok (.getfield 32, 3) := by decide +kernel
theorem d_X11_factor_78 : decode prog_13_method_39_code 78 = .ok (.iload_n 2, 1) := by decide +kernel
theorem d_X11_factor_79 : decode prog_13_method_39_code 79 = .ok (.iaload, 1) := by decide +kernel
theorem d_X11_factor_80 : decode prog_13_method_39_code 80 = .ok (.i2l, 1) := by decide +kernel
theorem d_X11_factor_81 : decode prog_13_method_39_code 81 = .ok (.goto 31, 3) := by decide +kernel
theorem d_X11_factor_84 : decode prog_13_method_39_code 84 = .ok (.iload_n 3, 1) := by decide +kernel
theorem d_X11_factor_85 : decode prog_13_method_39_code 85 = .ok (.bipush (-3), 2) := by decide +kernel
theorem d_X11_factor_87 : decode prog_13_method_39_code 87 = .ok (.if_icmp .ne 13, 3) := by decide +kernel
theorem d_X11_factor_90 : decode prog_13_method_39_code 90 = .ok (.aload_n 0, 1) := by decide +kernel
theorem d_X11_factor_91 : decode prog_13_method_39_code 91 = .ok (.getfield 29, 3) := by decide +kernel
theorem d_X11_factor_94 : decode prog_13_method_39_code 94 = .ok (.iload_n 2, 1) := by decide +kernel
theorem d_X11_factor_95 : decode prog_13_method_39_code 95 = .ok (.iaload, 1) := by decide +kernel
theorem d_X11_factor_96 : decode prog_13_method_39_code 96 = .ok (.i2l, 1) := by decide +kernel
theorem d_X11_factor_97 : decode prog_13_method_39_code 97 = .ok (.goto 15, 3) := by decide +kernel
theorem d_X11_factor_100 : decode prog_13_method_39_code 100 = .ok (.aload_n 0, 1) := by decide +kernel
theorem d_X11_factor_101 : decode prog_13_method_39_code 101 = .ok (.getfield 35, 3) := by decide +kernel
theorem d_X11_factor_104 : decode prog_13_method_39_code 104 = .ok (.bipush 9, 2) := by decide +kernel
theorem d_X11_factor_106 : decode prog_13_method_39_code 106 = .ok (.iload_n 2, 1) := by decide +kernel
theorem d_X11_factor_107 : decode prog_13_method_39_code 107 = .ok (.imul, 1) := by decide +kernel
theorem d_X11_factor_108 : decode prog_13_method_39_code 108 = .ok (.iload_n 3, 1) := by decide +kernel
theorem d_X11_factor_109 : decode prog_13_method_39_code 109 = .ok (.iadd, 1) := by decide +kernel
theorem d_X11_factor_110 : decode prog_13_method_39_code 110 = .ok (.iaload, 1) := by decide +kernel
theorem d_X11_factor_111 : decode prog_13_method_39_code 111 = .ok (.i2l, 1) := by decide +kernel
theorem d_X11_factor_112 : decode prog_13_method_39_code 112 = .ok (.lreturn, 1) := by decide +kernel
def f_X11_factor (a0 : Int) (a1 : Int) (a2 : Int) (M0 : tp_M) : Option (Int × tp_M) :=
  (f_X11_isSlot a0 M0).bind fun r1 =>
  if r1 = 0 then
    some ((-9223372036854775808), M0)
  else
    (f_X11_in a2 (-3) 8 M0).bind fun r4 =>
    if r4 = 0 then
      some ((-9223372036854775808), M0)
    else
      (f_X11_laysResidues a0 M0).bind fun r7 =>
      if ¬ r7.1 = 0 then
        (f_X11_takesApart r7.2).bind fun r10 =>
        if ¬ a2 = (-1) then
          (f_X11_in a1 0 (tp_w ((r10 483 12) - 1)) r10).bind fun r13 =>
          if ¬ r13 = 0 then
            if ¬ a2 = (-2) then
              if ¬ a2 = (-3) then
                if 0 ≤ (tp_w ((tp_w (9 * a1)) + a2)) ∧ (tp_w ((tp_w (9 * a1)) + a2)) < 81 then
                  some ((r10 492 (tp_w ((tp_w (9 * a1)) + a2))), r10) else none
              else
                if 0 ≤ a1 ∧ a1 < 9 then
                  some ((r10 490 a1), r10) else none
            else
              if 0 ≤ a1 ∧ a1 < 9 then
                some ((r10 491 a1), r10) else none
          else
            some ((-9223372036854775808), r10)
        else
          some ((r10 483 12), r10)
      else
        some ((-9223372036854775808), r7.2)
set_option maxHeartbeats 4000000 in
set_option maxRecDepth 100000 in
theorem T_X11_factor (G : tp_G) (a0 : Int) (a1 : Int) (a2 : Int) (M0 : tp_M) : tp_J i_X11_factor (tp_rm 3) G 0 0 o_X11_factor tp_NC (tp_st M0) 0 0 [some (.inr (.inr 483)), some (.inl a0), some (.inl a1), some (.inl a2)] 0 [] (f_X11_factor a0 a1 a2 M0) := by
  unfold f_X11_factor
  refine j_iload_n rfl d_X11_factor_0 rfl ?_
  refine j_bind (fun r1 h2 => ?_)
  refine j_callS (y := y_X11_isSlot) (I' := i_X11_isSlot) (avs := [.inl a0]) (st := []) (c_X11_isSlot G a0 M0 r1 h2) cs_Model_231 wd_1250 wd_1251 rfl rfl (Nat.le_of_ble_eq_true rfl) ⟨rfl, rfl⟩ ⟨by decide, by decide⟩ ⟨by decide, by decide⟩ d_X11_factor_1 ?_
  refine j_if_eq (tgt := 29) d_X11_factor_4 (by decide) (fun h3 => ?_) (fun h3 => ?_)
  · refine j_ldc2 (x := (-9223372036854775808)) ⟨by decide, by decide⟩ (show Cond.constantLong _ _ _ ∈ lw_tbl from wd_1305) d_X11_factor_29 ?_
    exact j_lret d_X11_factor_32 rfl rfl ⟨rfl, rfl⟩
  · refine j_iload_n rfl d_X11_factor_7 rfl ?_
    refine j_i2l d_X11_factor_8 ?_
    refine j_ldc2 (x := (-3)) ⟨by decide, by decide⟩ (show Cond.constantLong _ _ _ ∈ lw_tbl from wd_1350) d_X11_factor_9 ?_
    refine j_ldc2 (x := 8) ⟨by decide, by decide⟩ (show Cond.constantLong _ _ _ ∈ lw_tbl from wd_1351) d_X11_factor_12 ?_
    refine j_bind (fun r4 h5 => ?_)
    refine j_callS (y := y_X11_in) (I' := i_X11_in) (avs := [.inr (.inl a2), .inr (.inl (-3)), .inr (.inl 8)]) (st := []) (c_X11_in G a2 (-3) 8 M0 r4 h5) cs_Model_193 wd_1239 wd_1240 rfl rfl (Nat.le_of_ble_eq_true rfl) ⟨rfl, rfl⟩ ⟨by decide, by decide⟩ ⟨by decide, by decide⟩ d_X11_factor_15 ?_
    refine j_if_eq (tgt := 29) d_X11_factor_18 (by decide) (fun h6 => ?_) (fun h6 => ?_)
    · refine j_ldc2 (x := (-9223372036854775808)) ⟨by decide, by decide⟩ (show Cond.constantLong _ _ _ ∈ lw_tbl from wd_1305) d_X11_factor_29 ?_
      exact j_lret d_X11_factor_32 rfl rfl ⟨rfl, rfl⟩
    · refine j_aload_n rfl d_X11_factor_21 rfl ?_
      refine j_iload_n rfl d_X11_factor_22 rfl ?_
      refine j_bind (fun r7 h8 => ?_)
      refine j_callV (y := y_X11_laysResidues) (I' := i_X11_laysResidues) (avs := [.inl a0]) (c := 483) (st := []) (c_X11_laysResidues G a0 M0 r7 h8) cs_Model_294 wd_1352 wd_1354 ws_50 tg_483 rfl rfl rfl (Nat.le_of_ble_eq_true rfl) ⟨rfl, rfl⟩ ⟨by decide, by decide⟩ ⟨by decide, by decide⟩ d_X11_factor_23 ?_
      refine j_if_ne (tgt := 33) d_X11_factor_26 (by decide) (fun h9 => ?_) (fun h9 => ?_)
      · refine j_aload_n rfl d_X11_factor_33 rfl ?_
        refine j_bind (fun r10 h11 => ?_)
        refine j_callV (y := y_X11_takesApart) (I' := i_X11_takesApart) (avs := []) (c := 483) (st := []) (c_X11_takesApart G r7.2 r10 h11) cs_Model_297 wd_1364 wd_1366 ws_53 tg_483 rfl rfl rfl (Nat.le_of_ble_eq_true rfl) ⟨rfl, rfl⟩ ⟨by decide, by decide⟩ ⟨by decide, by decide⟩ d_X11_factor_34 ?_
        refine j_iload_n rfl d_X11_factor_37 rfl ?_
        refine j_iconst ⟨by decide, by decide⟩ d_X11_factor_38 ?_
        refine j_icmp_ne (tgt := 48) d_X11_factor_39 (by decide) (fun h12 => ?_) (fun h12 => ?_)
        · refine j_iload_n rfl d_X11_factor_48 rfl ?_
          refine j_i2l d_X11_factor_49 ?_
          refine j_lconst (x := 0) ⟨by decide, by decide⟩ (by decide +kernel) d_X11_factor_50 ?_
          refine j_aload_n rfl d_X11_factor_51 rfl ?_
          refine j_geti fl_Model_272 tg_483 d_X11_factor_52 ?_
          refine j_iconst ⟨by decide, by decide⟩ d_X11_factor_55 ?_
          refine j_isub d_X11_factor_56 ?_
          refine j_i2l d_X11_factor_57 ?_
          refine j_bind (fun r13 h14 => ?_)
          refine j_callS (y := y_X11_in) (I' := i_X11_in) (avs := [.inr (.inl a1), .inr (.inl 0), .inr (.inl (tp_w ((r10 483 12) - 1)))]) (st := []) (c_X11_in G a1 0 (tp_w ((r10 483 12) - 1)) r10 r13 h14) cs_Model_193 wd_1239 wd_1240 rfl rfl (Nat.le_of_ble_eq_true rfl) ⟨rfl, rfl⟩ ⟨by decide, by decide⟩ ⟨by decide, by decide⟩ d_X11_factor_58 ?_
          refine j_if_ne (tgt := 68) d_X11_factor_61 (by decide) (fun h15 => ?_) (fun h15 => ?_)
          · refine j_iload_n rfl d_X11_factor_68 rfl ?_
            refine j_bipush ⟨by decide, by decide⟩ (by decide +kernel) d_X11_factor_69 ?_
            refine j_icmp_ne (tgt := 84) d_X11_factor_71 (by decide) (fun h16 => ?_) (fun h16 => ?_)
            · refine j_iload_n rfl d_X11_factor_84 rfl ?_
              refine j_bipush ⟨by decide, by decide⟩ (by decide +kernel) d_X11_factor_85 ?_
              refine j_icmp_ne (tgt := 100) d_X11_factor_87 (by decide) (fun h17 => ?_) (fun h17 => ?_)
              · refine j_aload_n rfl d_X11_factor_100 rfl ?_
                refine j_getr fl_Model_35 tg_483 rv_483_15 d_X11_factor_101 ?_
                refine j_bipush ⟨by decide, by decide⟩ (by decide +kernel) d_X11_factor_104 ?_
                refine j_iload_n rfl d_X11_factor_106 rfl ?_
                refine j_imul d_X11_factor_107 ?_
                refine j_iload_n rfl d_X11_factor_108 rfl ?_
                refine j_iadd d_X11_factor_109 ?_
                refine j_iald tg_492 al_492 d_X11_factor_110 ?_
                refine j_i2l d_X11_factor_111 ?_
                exact j_lret d_X11_factor_112 rfl rfl ⟨rfl, rfl⟩
              · refine j_aload_n rfl d_X11_factor_90 rfl ?_
                refine j_getr fl_Model_29 tg_483 rv_483_13 d_X11_factor_91 ?_
                refine j_iload_n rfl d_X11_factor_94 rfl ?_
                refine j_iald tg_490 al_490 d_X11_factor_95 ?_
                refine j_i2l d_X11_factor_96 ?_
                refine j_goto (tgt := 112) d_X11_factor_97 (by decide) ?_
                exact j_lret d_X11_factor_112 rfl rfl ⟨rfl, rfl⟩
            · refine j_aload_n rfl d_X11_factor_74 rfl ?_
              refine j_getr fl_Model_32 tg_483 rv_483_14 d_X11_factor_75 ?_
              refine j_iload_n rfl d_X11_factor_78 rfl ?_
              refine j_iald tg_491 al_491 d_X11_factor_79 ?_
              refine j_i2l d_X11_factor_80 ?_
              refine j_goto (tgt := 112) d_X11_factor_81 (by decide) ?_
              exact j_lret d_X11_factor_112 rfl rfl ⟨rfl, rfl⟩
          · refine j_ldc2 (x := (-9223372036854775808)) ⟨by decide, by decide⟩ (show Cond.constantLong _ _ _ ∈ lw_tbl from wd_1305) d_X11_factor_64 ?_
            exact j_lret d_X11_factor_67 rfl rfl ⟨rfl, rfl⟩
        · refine j_aload_n rfl d_X11_factor_42 rfl ?_
          refine j_geti fl_Model_272 tg_483 d_X11_factor_43 ?_
          refine j_i2l d_X11_factor_46 ?_
          exact j_lret d_X11_factor_47 rfl rfl ⟨rfl, rfl⟩
      · refine j_ldc2 (x := (-9223372036854775808)) ⟨by decide, by decide⟩ (show Cond.constantLong _ _ _ ∈ lw_tbl from wd_1305) d_X11_factor_29 ?_
        exact j_lret d_X11_factor_32 rfl rfl ⟨rfl, rfl⟩
set_option maxHeartbeats 4000000 in
set_option maxRecDepth 100000 in
theorem c_X11_factor (G : tp_G) (a0 : Int) (a1 : Int) (a2 : Int) (M0 : tp_M) (r : Int × tp_M) (h : f_X11_factor a0 a1 a2 M0 = some r) (l : Launch) : Met l y_X11_factor (tp_ws y_X11_factor i_X11_factor) (tp_rm 3) (tp_Pc G [.inr (.inr 483), .inl a0, .inl a1, .inl a2] tp_NC (tp_st M0)) (tp_Q G (o_X11_factor r)) 0 0 (tp_A G) :=
  tp_met (I := i_X11_factor) (y := y_X11_factor) (by decide +kernel) (Eq.refl "TypesAtPrimeModel") (Eq.refl "factor") (lv := [some (.inr (.inr 483)), some (.inl a0), some (.inl a1), some (.inl a2)]) rfl (Nat.le_of_ble_eq_true rfl) (T_X11_factor G a0 a1 a2 M0) h l
theorem wd_1052 : (.fieldLink "TypesAtPrimeModel" 47 "TypesAtPrimeModel" "level" "[I" : Cond) ∈ lw_tbl := List.mem_append_right _ (List.mem_of_getElem? (i := 1052) (by decide +kernel))
theorem fl_Model_47 : tp_F "TypesAtPrimeModel" 47 11 24 2 := ⟨_, _, _, rfl, by decide, rfl, wd_1052, rfl, by decide⟩
theorem tg_496 : tp_tg 496 = 21 := by decide +kernel
theorem al_496 : tp_al 496 = 40 := by decide +kernel
theorem rv_483_24 : tp_rv 483 24 = 496 := by decide +kernel
theorem wd_1077 : (.fieldLink "TypesAtPrimeModel" 300 "TypesAtPrimeModel" "depth" "I" : Cond) ∈ lw_tbl := List.mem_append_right _ (List.mem_of_getElem? (i := 1077) (by decide +kernel))
theorem fl_Model_300 : tp_F "TypesAtPrimeModel" 300 11 49 0 := ⟨_, _, _, rfl, by decide, rfl, wd_1077, rfl, by decide⟩
theorem pf_11_49 (v : Int) : ∀ (C : String) (T : u_T) (N : Nat), vwCl[11]? = some (C, T, N) → (T 49).2.2.2 = false ∧ ∀ G : tp_G, ∃ ty, parseFieldDescriptor (T 49).2.2.1 = some ty ∧ narrow ty (tp_enc G (tp_zv 0 v)) = tp_enc G (tp_zv 0 v) ∧ fits ty (tp_enc G (tp_zv 0 v)) = true := by
  intro C T N h
  cases h
  exact ⟨rfl, fun G => ⟨_, tyX11_ok 49 (by decide), rfl, rfl⟩⟩
theorem wd_1079 : (.fieldLink "TypesAtPrimeModel" 125 "TypesAtPrimeModel" "keyDegree" "[I" : Cond) ∈ lw_tbl := List.mem_append_right _ (List.mem_of_getElem? (i := 1079) (by decide +kernel))
theorem fl_Model_125 : tp_F "TypesAtPrimeModel" 125 11 51 2 := ⟨_, _, _, rfl, by decide, rfl, wd_1079, rfl, by decide⟩
theorem tg_522 : tp_tg 522 = 21 := by decide +kernel
theorem al_522 : tp_al 522 = 8 := by decide +kernel
theorem rv_483_51 : tp_rv 483 51 = 522 := by decide +kernel
theorem wd_1078 : (.fieldLink "TypesAtPrimeModel" 122 "TypesAtPrimeModel" "ramified" "[I" : Cond) ∈ lw_tbl := List.mem_append_right _ (List.mem_of_getElem? (i := 1078) (by decide +kernel))
theorem fl_Model_122 : tp_F "TypesAtPrimeModel" 122 11 50 2 := ⟨_, _, _, rfl, by decide, rfl, wd_1078, rfl, by decide⟩
theorem tg_521 : tp_tg 521 = 21 := by decide +kernel
theorem al_521 : tp_al 521 = 8 := by decide +kernel
theorem rv_483_50 : tp_rv 483 50 = 521 := by decide +kernel
theorem wd_1060 : (.fieldLink "TypesAtPrimeModel" 71 "TypesAtPrimeModel" "madeRamified" "[I" : Cond) ∈ lw_tbl := List.mem_append_right _ (List.mem_of_getElem? (i := 1060) (by decide +kernel))
theorem fl_Model_71 : tp_F "TypesAtPrimeModel" 71 11 32 2 := ⟨_, _, _, rfl, by decide, rfl, wd_1060, rfl, by decide⟩
theorem tg_504 : tp_tg 504 = 21 := by decide +kernel
theorem al_504 : tp_al 504 = 40 := by decide +kernel
theorem rv_483_32 : tp_rv 483 32 = 504 := by decide +kernel
theorem wd_1082 : (.fieldLink "TypesAtPrimeModel" 134 "TypesAtPrimeModel" "madeOf" "[I" : Cond) ∈ lw_tbl := List.mem_append_right _ (List.mem_of_getElem? (i := 1082) (by decide +kernel))
theorem fl_Model_134 : tp_F "TypesAtPrimeModel" 134 11 54 2 := ⟨_, _, _, rfl, by decide, rfl, wd_1082, rfl, by decide⟩
theorem tg_525 : tp_tg 525 = 21 := by decide +kernel
theorem al_525 : tp_al 525 = 8 := by decide +kernel
theorem rv_483_54 : tp_rv 483 54 = 525 := by decide +kernel
theorem wd_1080 : (.fieldLink "TypesAtPrimeModel" 128 "TypesAtPrimeModel" "slopes" "[I" : Cond) ∈ lw_tbl := List.mem_append_right _ (List.mem_of_getElem? (i := 1080) (by decide +kernel))
theorem fl_Model_128 : tp_F "TypesAtPrimeModel" 128 11 52 2 := ⟨_, _, _, rfl, by decide, rfl, wd_1080, rfl, by decide⟩
theorem tg_523 : tp_tg 523 = 21 := by decide +kernel
theorem al_523 : tp_al 523 = 8 := by decide +kernel
theorem rv_483_52 : tp_rv 483 52 = 523 := by decide +kernel
theorem wd_1061 : (.fieldLink "TypesAtPrimeModel" 74 "TypesAtPrimeModel" "madeSlope" "[I" : Cond) ∈ lw_tbl := List.mem_append_right _ (List.mem_of_getElem? (i := 1061) (by decide +kernel))
theorem fl_Model_74 : tp_F "TypesAtPrimeModel" 74 11 33 2 := ⟨_, _, _, rfl, by decide, rfl, wd_1061, rfl, by decide⟩
theorem tg_505 : tp_tg 505 = 21 := by decide +kernel
theorem al_505 : tp_al 505 = 40 := by decide +kernel
theorem rv_483_33 : tp_rv 483 33 = 505 := by decide +kernel
theorem wd_1081 : (.fieldLink "TypesAtPrimeModel" 131 "TypesAtPrimeModel" "keyOf" "[I" : Cond) ∈ lw_tbl := List.mem_append_right _ (List.mem_of_getElem? (i := 1081) (by decide +kernel))
theorem fl_Model_131 : tp_F "TypesAtPrimeModel" 131 11 53 2 := ⟨_, _, _, rfl, by decide, rfl, wd_1081, rfl, by decide⟩
theorem tg_524 : tp_tg 524 = 21 := by decide +kernel
theorem al_524 : tp_al 524 = 8 := by decide +kernel
theorem rv_483_53 : tp_rv 483 53 = 524 := by decide +kernel
theorem wd_1054 : (.fieldLink "TypesAtPrimeModel" 53 "TypesAtPrimeModel" "above" "[I" : Cond) ∈ lw_tbl := List.mem_append_right _ (List.mem_of_getElem? (i := 1054) (by decide +kernel))
theorem fl_Model_53 : tp_F "TypesAtPrimeModel" 53 11 26 2 := ⟨_, _, _, rfl, by decide, rfl, wd_1054, rfl, by decide⟩
theorem tg_498 : tp_tg 498 = 21 := by decide +kernel
theorem al_498 : tp_al 498 = 40 := by decide +kernel
theorem rv_483_26 : tp_rv 483 26 = 498 := by decide +kernel
def y_X11_takesKnot : MethodName := ⟨"TypesAtPrimeModel", "takesKnot", "(I)V"⟩
abbrev i_X11_takesKnot : tp_I := (prog_13_method_40_code, "TypesAtPrimeModel", none, 4, "takesKnot")
abbrev o_X11_takesKnot : tp_M → tp_O := fun r => (none, tp_NC, tp_st r)
theorem d_X11_takesKnot_0 : decode prog_13_method_40_code 0 = .ok (.aload_n 0, 1) := by decide +kernel
theorem d_X11_takesKnot_1 : decode prog_13_method_40_code 1 = .ok (.aload_n 0, 1) := by decide +kernel
theorem d_X11_takesKnot_2 : decode prog_13_method_40_code 2 = .ok (.getfield 47, 3) := by decide +kernel
theorem d_X11_takesKnot_5 : decode prog_13_method_40_code 5 = .ok (.iload_n 1, 1) := by decide +kernel
theorem d_X11_takesKnot_6 : decode prog_13_method_40_code 6 = .ok (.iaload, 1) := by decide +kernel
theorem d_X11_takesKnot_7 : decode prog_13_method_40_code 7 = .ok (.putfield 300, 3) := by decide +kernel
theorem d_X11_takesKnot_10 : decode prog_13_method_40_code 10 = .ok (.iload_n 1, 1) := by decide +kernel
theorem d_X11_takesKnot_11 : decode prog_13_method_40_code 11 = .ok (.istore_n 2, 1) := by decide +kernel
theorem d_X11_takesKnot_12 : decode prog_13_method_40_code 12 = .ok (.aload_n 0, 1) := by decide +kernel
theorem d_X11_takesKnot_13 : decode prog_13_method_40_code 13 = .ok (.getfield 300, 3) := by decide +kernel
theorem d_X11_takesKnot_16 : decode prog_13_method_40_code 16 = .ok (.istore_n 3, 1) := by decide +kernel
theorem d_X11_takesKnot_17 : decode prog_13_method_40_code 17 = .ok (.iload_n 3, 1) := by decide +kernel
theorem d_X11_takesKnot_18 : decode prog_13_method_40_code 18 = .ok (.iconst 1, 1) := by decide +kernel
theorem d_X11_takesKnot_19 : decode prog_13_method_40_code 19 = .ok (.if_icmp .lt 32, 3) := by decide +kernel
theorem d_X11_takesKnot_22 : decode prog_13_method_40_code 22 = .ok (.aload_n 0, 1) := by decide +kernel
theorem d_X11_takesKnot_23 : decode prog_13_method_40_code 23 = .ok (.getfield 131, 3) := by decide +kernel
theorem d_X11_takesKnot_26 : decode prog_13_method_40_code 26 = .ok (.iload_n 3, 1) := by decide +kernel
theorem d_X11_takesKnot_27 : decode prog_13_method_40_code 27 = .ok (.iload_n 2, 1) := by decide +kernel
theorem d_X11_takesKnot_28 : decode prog_13_method_40_code 28 = .ok (.iastore, 1) := by decide +kernel
theorem d_X11_takesKnot_29 : decode prog_13_method_40_code 29 = .ok (.aload_n 0, 1) := by decide +kernel
theorem d_X11_takesKnot_30 : decode prog_13_method_40_code 30 = .ok (.getfield 134, 3) := by decide +kernel
theorem d_X11_takesKnot_33 : decode prog_13_method_40_code 33 = .ok (.iload_n 3, 1) := by decide +kernel
theorem d_X11_takesKnot_34 : decode prog_13_method_40_code 34 = .ok (.iconst 1, 1) := by decide +kernel
theorem d_X11_takesKnot_35 : decode prog_13_method_40_code 35 = .ok (.isub, 1) := by decide +kernel
theorem d_X11_takesKnot_36 : decode prog_13_method_40_code 36 = .ok (.iload_n 2, 1) := by decide +kernel
theorem d_X11_takesKnot_37 : decode prog_13_method_40_code 37 = .ok (.iastore, 1) := by decide +kernel
theorem d_X11_takesKnot_38 : decode prog_13_method_40_code 38 = .ok (.aload_n 0, 1) := by decide +kernel
theorem d_X11_takesKnot_39 : decode prog_13_method_40_code 39 = .ok (.getfield 53, 3) := by decide +kernel
theorem d_X11_takesKnot_42 : decode prog_13_method_40_code 42 = .ok (.iload_n 2, 1) := by decide +kernel
theorem d_X11_takesKnot_43 : decode prog_13_method_40_code 43 = .ok (.iaload, 1) := by decide +kernel
theorem d_X11_takesKnot_44 : decode prog_13_method_40_code 44 = .ok (.istore_n 2, 1) := by decide +kernel
theorem d_X11_takesKnot_45 : decode prog_13_method_40_code 45 = .ok (.iinc 3 (-1), 3) := by decide +kernel
theorem d_X11_takesKnot_48 : decode prog_13_method_40_code 48 = .ok (.goto (-31), 3) := by decide +kernel
theorem d_X11_takesKnot_51 : decode prog_13_method_40_code 51 = .ok (.aload_n 0, 1) := by decide +kernel
theorem d_X11_takesKnot_52 : decode prog_13_method_40_code 52 = .ok (.getfield 125, 3) := by decide +kernel
theorem d_X11_takesKnot_55 : decode prog_13_method_40_code 55 = .ok (.iconst 1, 1) := by decide +kernel
theorem d_X11_takesKnot_56 : decode prog_13_method_40_code 56 = .ok (.iconst 1, 1) := by decide +kernel
theorem d_X11_takesKnot_57 : decode prog_13_method_40_code 57 = .ok (.iastore, 1) := by decide +kernel
theorem d_X11_takesKnot_58 : decode prog_13_method_40_code 58 = .ok (.iconst 1, 1) := by decide +kernel
theorem d_X11_takesKnot_59 : decode prog_13_method_40_code 59 = .ok (.istore_n 3, 1) := by decide +kernel
theorem d_X11_takesKnot_60 : decode prog_13_method_40_code 60 = .ok (.iload_n 3, 1) := by decide +kernel
theorem d_X11_takesKnot_61 : decode prog_13_method_40_code 61 = .ok (.aload_n 0, 1) := by decide +kernel
theorem d_X11_takesKnot_62 : decode prog_13_method_40_code 62 = .ok (.getfield 300, 3) := by decide +kernel
theorem d_X11_takesKnot_65 : decode prog_13_method_40_code 65 = .ok (.if_icmp .ge 64, 3) := by decide +kernel
theorem d_X11_takesKnot_68 : decode prog_13_method_40_code 68 = .ok (.aload_n 0, 1) := by decide +kernel
theorem d_X11_takesKnot_69 : decode prog_13_method_40_code 69 = .ok (.getfield 122, 3) := by decide +kernel
theorem d_X11_takesKnot_72 : decode prog_13_method_40_code 72 = .ok (.iload_n 3, 1) := by decide +kernel
theorem d_X11_takesKnot_73 : decode prog_13_method_40_code 73 = .ok (.aload_n 0, 1) := by decide +kernel
theorem d_X11_takesKnot_74 : decode prog_13_method_40_code 74 = .ok (.getfield 71, 3) := by decide +kernel
theorem d_X11_takesKnot_77 : decode prog_13_method_40_code 77 = .ok (.aload_n 0, 1) := by decide +kernel
theorem d_X11_takesKnot_78 : decode prog_13_method_40_code 78 = .ok (.getfield 134, 3) := by decide +kernel
theorem d_X11_takesKnot_81 : decode prog_13_method_40_code 81 = .ok (.iload_n 3, 1) := by decide +kernel
theorem d_X11_takesKnot_82 : decode prog_13_method_40_code 82 = .ok (.iaload, 1) := by decide +kernel
theorem d_X11_takesKnot_83 : decode prog_13_method_40_code 83 = .ok (.iaload, 1) := by decide +kernel
theorem d_X11_takesKnot_84 : decode prog_13_method_40_code 84 = .ok (.iastore, 1) := by decide +kernel
theorem d_X11_takesKnot_85 : decode prog_13_method_40_code 85 = .ok (.aload_n 0, 1) := by decide +kernel
theorem d_X11_takesKnot_86 : decode prog_13_method_40_code 86 = .ok (.getfield 128, 3) := by decide +kernel
theorem d_X11_takesKnot_89 : decode prog_13_method_40_code 89 = .ok (.iload_n 3, 1) := by decide +kernel
theorem d_X11_takesKnot_90 : decode prog_13_method_40_code 90 = .ok (.aload_n 0, 1) := by decide +kernel
theorem d_X11_takesKnot_91 : decode prog_13_method_40_code 91 = .ok (.getfield 74, 3) := by decide +kernel
theorem d_X11_takesKnot_94 : decode prog_13_method_40_code 94 = .ok (.aload_n 0, 1) := by decide +kernel
theorem d_X11_takesKnot_95 : decode prog_13_method_40_code 95 = .ok (.getfield 134, 3) := by decide +kernel
theorem d_X11_takesKnot_98 : decode prog_13_method_40_code 98 = .ok (.iload_n 3, 1) := by decide +kernel
theorem d_X11_takesKnot_99 : decode prog_13_method_40_code 99 = .ok (.iaload, 1) := by decide +kernel
theorem d_X11_takesKnot_100 : decode prog_13_method_40_code 100 = .ok (.iaload, 1) := by decide +kernel
theorem d_X11_takesKnot_101 : decode prog_13_method_40_code 101 = .ok (.iastore, 1) := by decide +kernel
theorem d_X11_takesKnot_102 : decode prog_13_method_40_code 102 = .ok (.aload_n 0, 1) := by decide +kernel
theorem d_X11_takesKnot_103 : decode prog_13_method_40_code 103 = .ok (.getfield 125, 3) := by decide +kernel
theorem d_X11_takesKnot_106 : decode prog_13_method_40_code 106 = .ok (.iload_n 3, 1) := by decide +kernel
theorem d_X11_takesKnot_107 : decode prog_13_method_40_code 107 = .ok (.iconst 1, 1) := by decide +kernel
theorem d_X11_takesKnot_108 : decode prog_13_method_40_code 108 = .ok (.iadd, 1) := by decide +kernel
theorem d_X11_takesKnot_109 : decode prog_13_method_40_code 109 = .ok (.aload_n 0, 1) := by decide +kernel
theorem d_X11_takesKnot_110 : decode prog_13_method_40_code 110 = .ok (.getfield 125, 3) := by decide +kernel
theorem d_X11_takesKnot_113 : decode prog_13_method_40_code 113 = .ok (.iload_n 3, 1) := by decide +kernel
theorem d_X11_takesKnot_114 : decode prog_13_method_40_code 114 = .ok (.iaload, 1) := by decide +kernel
theorem d_X11_takesKnot_115 : decode prog_13_method_40_code 115 = .ok (.aload_n 0, 1) := by decide +kernel
theorem d_X11_takesKnot_116 : decode prog_13_method_40_code 116 = .ok (.getfield 122, 3) := by decide +kernel
theorem d_X11_takesKnot_119 : decode prog_13_method_40_code 119 = .ok (.iload_n 3, 1) := by decide +kernel
theorem d_X11_takesKnot_120 : decode prog_13_method_40_code 120 = .ok (.iaload, 1) := by decide +kernel
theorem d_X11_takesKnot_121 : decode prog_13_method_40_code 121 = .ok (.imul, 1) := by decide +kernel
theorem d_X11_takesKnot_122 : decode prog_13_method_40_code 122 = .ok (.iastore, 1) := by decide +kernel
theorem d_X11_takesKnot_123 : decode prog_13_method_40_code 123 = .ok (.iinc 3 1, 3) := by decide +kernel
theorem d_X11_takesKnot_126 : decode prog_13_method_40_code 126 = .ok (.goto (-66), 3) := by decide +kernel
theorem d_X11_takesKnot_129 : decode prog_13_method_40_code 129 = .ok (.return_, 1) := by decide +kernel
def f_X11_takesKnot_60B (rec_60 : Int → tp_M → Option (tp_M)) (x3 : Int) (M0 : tp_M) : Option (tp_M) :=
  if (M0 483 49) ≤ x3 then
    some M0
  else
    if 0 ≤ x3 ∧ x3 < 8 then
      if 0 ≤ (M0 525 x3) ∧ (M0 525 x3) < 40 then
        if 0 ≤ x3 ∧ x3 < 8 then
          tp_mp (tp_up M0 521 x3 (M0 504 (M0 525 x3))) fun M6 =>
          if 0 ≤ x3 ∧ x3 < 8 then
            if 0 ≤ (M6 525 x3) ∧ (M6 525 x3) < 40 then
              if 0 ≤ x3 ∧ x3 < 8 then
                tp_mp (tp_up M6 523 x3 (M6 505 (M6 525 x3))) fun M7 =>
                if 0 ≤ x3 ∧ x3 < 8 then
                  if 0 ≤ x3 ∧ x3 < 8 then
                    if 0 ≤ (tp_w (x3 + 1)) ∧ (tp_w (x3 + 1)) < 8 then
                      tp_mp (tp_up M7 522 (tp_w (x3 + 1)) (tp_w ((M7 522 x3) * (M7 521 x3)))) fun M8 =>
                      tp_lt (tp_w (x3 + 1)) fun y9 =>
                      rec_60 y9 M8 else none else none else none else none else none else none else none else none else none
set_option maxHeartbeats 4000000 in
set_option maxRecDepth 100000 in
theorem T_X11_takesKnot_60B (G : tp_G) (rec_60 : Int → tp_M → Option (tp_M)) (hrec_60 : ∀ (x3' : Int) (M' : tp_M), tp_J i_X11_takesKnot (tp_rm 0) G 0 0 o_X11_takesKnot tp_NC (tp_st M') 0 0 [some (.inr (.inr 483)), none, none, some (.inl (x3'))] 60 [] (rec_60 x3' M')) (x3 : Int) (M0 : tp_M) : tp_J i_X11_takesKnot (tp_rm 0) G 0 0 o_X11_takesKnot tp_NC (tp_st M0) 0 0 [some (.inr (.inr 483)), none, none, some (.inl x3)] 60 [] (f_X11_takesKnot_60B rec_60 x3 M0) := by
  unfold f_X11_takesKnot_60B
  refine j_iload_n rfl d_X11_takesKnot_60 rfl ?_
  refine j_aload_n rfl d_X11_takesKnot_61 rfl ?_
  refine j_geti fl_Model_300 tg_483 d_X11_takesKnot_62 ?_
  refine j_icmp_ge (tgt := 129) d_X11_takesKnot_65 (by decide) (fun h5 => ?_) (fun h5 => ?_)
  · exact j_vret d_X11_takesKnot_129 rfl rfl ⟨rfl, rfl⟩
  · refine j_aload_n rfl d_X11_takesKnot_68 rfl ?_
    refine j_getr fl_Model_122 tg_483 rv_483_50 d_X11_takesKnot_69 ?_
    refine j_iload_n rfl d_X11_takesKnot_72 rfl ?_
    refine j_aload_n rfl d_X11_takesKnot_73 rfl ?_
    refine j_getr fl_Model_71 tg_483 rv_483_32 d_X11_takesKnot_74 ?_
    refine j_aload_n rfl d_X11_takesKnot_77 rfl ?_
    refine j_getr fl_Model_134 tg_483 rv_483_54 d_X11_takesKnot_78 ?_
    refine j_iload_n rfl d_X11_takesKnot_81 rfl ?_
    refine j_iald tg_525 al_525 d_X11_takesKnot_82 ?_
    refine j_iald tg_504 al_504 d_X11_takesKnot_83 ?_
    refine j_iast tg_521 al_521 d_X11_takesKnot_84 (fun M6 hM6 => ?_)
    refine j_aload_n rfl d_X11_takesKnot_85 rfl ?_
    refine j_getr fl_Model_128 tg_483 rv_483_52 d_X11_takesKnot_86 ?_
    refine j_iload_n rfl d_X11_takesKnot_89 rfl ?_
    refine j_aload_n rfl d_X11_takesKnot_90 rfl ?_
    refine j_getr fl_Model_74 tg_483 rv_483_33 d_X11_takesKnot_91 ?_
    refine j_aload_n rfl d_X11_takesKnot_94 rfl ?_
    refine j_getr fl_Model_134 tg_483 rv_483_54 d_X11_takesKnot_95 ?_
    refine j_iload_n rfl d_X11_takesKnot_98 rfl ?_
    refine j_iald tg_525 al_525 d_X11_takesKnot_99 ?_
    refine j_iald tg_505 al_505 d_X11_takesKnot_100 ?_
    refine j_iast tg_523 al_523 d_X11_takesKnot_101 (fun M7 hM7 => ?_)
    refine j_aload_n rfl d_X11_takesKnot_102 rfl ?_
    refine j_getr fl_Model_125 tg_483 rv_483_51 d_X11_takesKnot_103 ?_
    refine j_iload_n rfl d_X11_takesKnot_106 rfl ?_
    refine j_iconst ⟨by decide, by decide⟩ d_X11_takesKnot_107 ?_
    refine j_iadd d_X11_takesKnot_108 ?_
    refine j_aload_n rfl d_X11_takesKnot_109 rfl ?_
    refine j_getr fl_Model_125 tg_483 rv_483_51 d_X11_takesKnot_110 ?_
    refine j_iload_n rfl d_X11_takesKnot_113 rfl ?_
    refine j_iald tg_522 al_522 d_X11_takesKnot_114 ?_
    refine j_aload_n rfl d_X11_takesKnot_115 rfl ?_
    refine j_getr fl_Model_122 tg_483 rv_483_50 d_X11_takesKnot_116 ?_
    refine j_iload_n rfl d_X11_takesKnot_119 rfl ?_
    refine j_iald tg_521 al_521 d_X11_takesKnot_120 ?_
    refine j_imul d_X11_takesKnot_121 ?_
    refine j_iast tg_522 al_522 d_X11_takesKnot_122 (fun M8 hM8 => ?_)
    refine j_iincN (lv' := fun y9 => [some (.inr (.inr 483)), none, none, some (.inl y9)]) d_X11_takesKnot_123 rfl (Nat.le_of_ble_eq_true rfl) (fun _ => rfl) (fun y9 hy9 => ?_)
    refine j_goto (tgt := 60) d_X11_takesKnot_126 (by decide) ?_
    exact j_wk [true, false, false, true] rfl rfl (hrec_60 y9 M8)
def f_X11_takesKnot_60 (x3 : Int) (M0 : tp_M) : Option (tp_M) := tp_lp (σ := Int × tp_M) (fun rec_ u => f_X11_takesKnot_60B (fun x3' M0' => rec_ (x3', M0')) u.1 u.2) tp_N (x3, M0)
set_option maxHeartbeats 4000000 in
set_option maxRecDepth 100000 in
theorem T_X11_takesKnot_60 (G : tp_G) (x3 : Int) (M0 : tp_M) : tp_J i_X11_takesKnot (tp_rm 0) G 0 0 o_X11_takesKnot tp_NC (tp_st M0) 0 0 [some (.inr (.inr 483)), none, none, some (.inl x3)] 60 [] (f_X11_takesKnot_60 x3 M0) := by
  unfold f_X11_takesKnot_60
  exact j_lp (σ := Int × tp_M) (n' := fun _ => tp_NC) (g' := fun u => tp_st u.2) (k' := fun _ => 0) (q' := fun _ => 0) (lv' := fun u => [some (.inr (.inr 483)), none, none, some (.inl u.1)]) (fun rec_ hrec u => T_X11_takesKnot_60B G (fun x3' M0' => rec_ (x3', M0')) (fun x3' M0' => hrec (x3', M0')) u.1 u.2) tp_N (x3, M0)
def f_X11_takesKnot_17B (rec_17 : Int → Int → tp_M → Option (tp_M)) (x2 : Int) (x3 : Int) (M0 : tp_M) : Option (tp_M) :=
  if x3 < 1 then
    if (0 : Int) ≤ 1 ∧ (1 : Int) < 8 then
      tp_mp (tp_up M0 522 1 1) fun M4 =>
      f_X11_takesKnot_60 1 M4 else none
  else
    if 0 ≤ x3 ∧ x3 < 8 then
      tp_mp (tp_up M0 524 x3 x2) fun M10 =>
      if 0 ≤ (tp_w (x3 - 1)) ∧ (tp_w (x3 - 1)) < 8 then
        tp_mp (tp_up M10 525 (tp_w (x3 - 1)) x2) fun M11 =>
        if 0 ≤ x2 ∧ x2 < 40 then
          tp_lt ((M11 498 x2)) fun y12 =>
          tp_lt (tp_w (x3 + (-1))) fun y13 =>
          rec_17 y12 y13 M11 else none else none else none
set_option maxHeartbeats 4000000 in
set_option maxRecDepth 100000 in
theorem T_X11_takesKnot_17B (G : tp_G) (rec_17 : Int → Int → tp_M → Option (tp_M)) (hrec_17 : ∀ (x2' x3' : Int) (M' : tp_M), tp_J i_X11_takesKnot (tp_rm 0) G 0 0 o_X11_takesKnot tp_NC (tp_st M') 0 0 [some (.inr (.inr 483)), none, some (.inl (x2')), some (.inl (x3'))] 17 [] (rec_17 x2' x3' M')) (x2 : Int) (x3 : Int) (M0 : tp_M) : tp_J i_X11_takesKnot (tp_rm 0) G 0 0 o_X11_takesKnot tp_NC (tp_st M0) 0 0 [some (.inr (.inr 483)), none, some (.inl x2), some (.inl x3)] 17 [] (f_X11_takesKnot_17B rec_17 x2 x3 M0) := by
  unfold f_X11_takesKnot_17B
  refine j_iload_n rfl d_X11_takesKnot_17 rfl ?_
  refine j_iconst ⟨by decide, by decide⟩ d_X11_takesKnot_18 ?_
  refine j_icmp_lt (tgt := 51) d_X11_takesKnot_19 (by decide) (fun h3 => ?_) (fun h3 => ?_)
  · refine j_aload_n rfl d_X11_takesKnot_51 rfl ?_
    refine j_getr fl_Model_125 tg_483 rv_483_51 d_X11_takesKnot_52 ?_
    refine j_iconst ⟨by decide, by decide⟩ d_X11_takesKnot_55 ?_
    refine j_iconst ⟨by decide, by decide⟩ d_X11_takesKnot_56 ?_
    refine j_iast tg_522 al_522 d_X11_takesKnot_57 (fun M4 hM4 => ?_)
    refine j_iconst ⟨by decide, by decide⟩ d_X11_takesKnot_58 ?_
    refine j_istore_n (lv' := [some (.inr (.inr 483)), none, some (.inl x2), some (.inl 1)]) rfl d_X11_takesKnot_59 (Nat.le_of_ble_eq_true rfl) rfl ?_
    exact j_wk [true, false, false, true] rfl rfl (T_X11_takesKnot_60 G 1 M4)
  · refine j_aload_n rfl d_X11_takesKnot_22 rfl ?_
    refine j_getr fl_Model_131 tg_483 rv_483_53 d_X11_takesKnot_23 ?_
    refine j_iload_n rfl d_X11_takesKnot_26 rfl ?_
    refine j_iload_n rfl d_X11_takesKnot_27 rfl ?_
    refine j_iast tg_524 al_524 d_X11_takesKnot_28 (fun M10 hM10 => ?_)
    refine j_aload_n rfl d_X11_takesKnot_29 rfl ?_
    refine j_getr fl_Model_134 tg_483 rv_483_54 d_X11_takesKnot_30 ?_
    refine j_iload_n rfl d_X11_takesKnot_33 rfl ?_
    refine j_iconst ⟨by decide, by decide⟩ d_X11_takesKnot_34 ?_
    refine j_isub d_X11_takesKnot_35 ?_
    refine j_iload_n rfl d_X11_takesKnot_36 rfl ?_
    refine j_iast tg_525 al_525 d_X11_takesKnot_37 (fun M11 hM11 => ?_)
    refine j_aload_n rfl d_X11_takesKnot_38 rfl ?_
    refine j_getr fl_Model_53 tg_483 rv_483_26 d_X11_takesKnot_39 ?_
    refine j_iload_n rfl d_X11_takesKnot_42 rfl ?_
    refine j_iald tg_498 al_498 d_X11_takesKnot_43 ?_
    refine j_nmI (fun y12 hy12 => ?_)
    refine j_istore_n (lv' := [some (.inr (.inr 483)), none, some (.inl y12), some (.inl x3)]) rfl d_X11_takesKnot_44 (Nat.le_of_ble_eq_true rfl) rfl ?_
    refine j_iincN (lv' := fun y13 => [some (.inr (.inr 483)), none, some (.inl y12), some (.inl y13)]) d_X11_takesKnot_45 rfl (Nat.le_of_ble_eq_true rfl) (fun _ => rfl) (fun y13 hy13 => ?_)
    refine j_goto (tgt := 17) d_X11_takesKnot_48 (by decide) ?_
    exact j_wk [true, false, true, true] rfl rfl (hrec_17 y12 y13 M11)
def f_X11_takesKnot_17 (x2 : Int) (x3 : Int) (M0 : tp_M) : Option (tp_M) := tp_lp (σ := Int × Int × tp_M) (fun rec_ u => f_X11_takesKnot_17B (fun x2' x3' M0' => rec_ (x2', x3', M0')) u.1 u.2.1 u.2.2) tp_N (x2, x3, M0)
set_option maxHeartbeats 4000000 in
set_option maxRecDepth 100000 in
theorem T_X11_takesKnot_17 (G : tp_G) (x2 : Int) (x3 : Int) (M0 : tp_M) : tp_J i_X11_takesKnot (tp_rm 0) G 0 0 o_X11_takesKnot tp_NC (tp_st M0) 0 0 [some (.inr (.inr 483)), none, some (.inl x2), some (.inl x3)] 17 [] (f_X11_takesKnot_17 x2 x3 M0) := by
  unfold f_X11_takesKnot_17
  exact j_lp (σ := Int × Int × tp_M) (n' := fun _ => tp_NC) (g' := fun u => tp_st u.2.2) (k' := fun _ => 0) (q' := fun _ => 0) (lv' := fun u => [some (.inr (.inr 483)), none, some (.inl u.1), some (.inl u.2.1)]) (fun rec_ hrec u => T_X11_takesKnot_17B G (fun x2' x3' M0' => rec_ (x2', x3', M0')) (fun x2' x3' M0' => hrec (x2', x3', M0')) u.1 u.2.1 u.2.2) tp_N (x2, x3, M0)
def f_X11_takesKnot (a0 : Int) (M0 : tp_M) : Option (tp_M) :=
  if 0 ≤ a0 ∧ a0 < 40 then
    tp_mp (tp_up M0 483 49 (M0 496 a0)) fun M1 =>
    tp_lt ((M1 483 49)) fun y2 =>
    f_X11_takesKnot_17 a0 y2 M1 else none
set_option maxHeartbeats 4000000 in
set_option maxRecDepth 100000 in
theorem T_X11_takesKnot (G : tp_G) (a0 : Int) (M0 : tp_M) : tp_J i_X11_takesKnot (tp_rm 0) G 0 0 o_X11_takesKnot tp_NC (tp_st M0) 0 0 [some (.inr (.inr 483)), some (.inl a0), none, none] 0 [] (f_X11_takesKnot a0 M0) := by
  unfold f_X11_takesKnot
  refine j_aload_n rfl d_X11_takesKnot_0 rfl ?_
  refine j_aload_n rfl d_X11_takesKnot_1 rfl ?_
  refine j_getr fl_Model_47 tg_483 rv_483_24 d_X11_takesKnot_2 ?_
  refine j_iload_n rfl d_X11_takesKnot_5 rfl ?_
  refine j_iald tg_496 al_496 d_X11_takesKnot_6 ?_
  refine j_put (z := 0) (v := (M0 496 a0)) fl_Model_300 (by decide) tg_483 (pf_11_49 _) pt_11 d_X11_takesKnot_7 (fun M1 hM1 => ?_)
  refine j_iload_n rfl d_X11_takesKnot_10 rfl ?_
  refine j_istore_n (lv' := [some (.inr (.inr 483)), some (.inl a0), some (.inl a0), none]) rfl d_X11_takesKnot_11 (Nat.le_of_ble_eq_true rfl) rfl ?_
  refine j_aload_n rfl d_X11_takesKnot_12 rfl ?_
  refine j_geti fl_Model_300 tg_483 d_X11_takesKnot_13 ?_
  refine j_nmI (fun y2 hy2 => ?_)
  refine j_istore_n (lv' := [some (.inr (.inr 483)), some (.inl a0), some (.inl a0), some (.inl y2)]) rfl d_X11_takesKnot_16 (Nat.le_of_ble_eq_true rfl) rfl ?_
  exact j_wk [true, false, true, true] rfl rfl (T_X11_takesKnot_17 G a0 y2 M1)
set_option maxHeartbeats 4000000 in
set_option maxRecDepth 100000 in
theorem c_X11_takesKnot (G : tp_G) (a0 : Int) (M0 : tp_M) (r : tp_M) (h : f_X11_takesKnot a0 M0 = some r) (l : Launch) : Met l y_X11_takesKnot (tp_ws y_X11_takesKnot i_X11_takesKnot) (tp_rm 0) (tp_Pc G [.inr (.inr 483), .inl a0] tp_NC (tp_st M0)) (tp_Q G (o_X11_takesKnot r)) 0 0 (tp_A G) :=
  tp_met (I := i_X11_takesKnot) (y := y_X11_takesKnot) (by decide +kernel) (Eq.refl "TypesAtPrimeModel") (Eq.refl "takesKnot") (lv := [some (.inr (.inr 483)), some (.inl a0), none, none]) rfl (Nat.le_of_ble_eq_true rfl) (T_X11_takesKnot G a0 M0) h l
def y_X11_lift : MethodName := ⟨"TypesAtPrimeModel", "lift", "()I"⟩
abbrev i_X11_lift : tp_I := (prog_13_method_41_code, "TypesAtPrimeModel", (some .int), 1, "lift")
abbrev o_X11_lift (M : tp_M) : Int → tp_O := fun r => (some (.inl r), tp_NC, tp_st M)
theorem d_X11_lift_0 : decode prog_13_method_41_code 0 = .ok (.aload_n 0, 1) := by decide +kernel
theorem d_X11_lift_1 : decode prog_13_method_41_code 1 = .ok (.getfield 300, 3) := by decide +kernel
theorem d_X11_lift_4 : decode prog_13_method_41_code 4 = .ok (.iconst 1, 1) := by decide +kernel
theorem d_X11_lift_5 : decode prog_13_method_41_code 5 = .ok (.if_icmp .ne 7, 3) := by decide +kernel
theorem d_X11_lift_8 : decode prog_13_method_41_code 8 = .ok (.iconst 0, 1) := by decide +kernel
theorem d_X11_lift_9 : decode prog_13_method_41_code 9 = .ok (.goto 26, 3) := by decide +kernel
theorem d_X11_lift_12 : decode prog_13_method_41_code 12 = .ok (.aload_n 0, 1) := by decide +kernel
theorem d_X11_lift_13 : decode prog_13_method_41_code 13 = .ok (.getfield 122, 3) := by decide +kernel
theorem d_X11_lift_16 : decode prog_13_method_41_code 16 = .ok (.aload_n 0, 1) := by decide +kernel
theorem d_X11_lift_17 : decode prog_13_method_41_code 17 = .ok (.getfield 300, 3) := by decide +kernel
theorem d_X11_lift_20 : decode prog_13_method_41_code 20 = .ok (.iconst 1, 1) := by decide +kernel
theorem d_X11_lift_21 : decode prog_13_method_41_code 21 = .ok (.isub, 1) := by decide +kernel
theorem d_X11_lift_22 : decode prog_13_method_41_code 22 = .ok (.iaload, 1) := by decide +kernel
theorem d_X11_lift_23 : decode prog_13_method_41_code 23 = .ok (.aload_n 0, 1) := by decide +kernel
theorem d_X11_lift_24 : decode prog_13_method_41_code 24 = .ok (.getfield 128, 3) := by decide +kernel
theorem d_X11_lift_27 : decode prog_13_method_41_code 27 = .ok (.aload_n 0, 1) := by decide +kernel
theorem d_X11_lift_28 : decode prog_13_method_41_code 28 = .ok (.getfield 300, 3) := by decide +kernel
theorem d_X11_lift_31 : decode prog_13_method_41_code 31 = .ok (.iconst 1, 1) := by decide +kernel
theorem d_X11_lift_32 : decode prog_13_method_41_code 32 = .ok (.isub, 1) := by decide +kernel
theorem d_X11_lift_33 : decode prog_13_method_41_code 33 = .ok (.iaload, 1) := by decide +kernel
theorem d_X11_lift_34 : decode prog_13_method_41_code 34 = .ok (.imul, 1) := by decide +kernel
theorem d_X11_lift_35 : decode prog_13_method_41_code 35 = .ok (.ireturn, 1) := by decide +kernel
def f_X11_lift (M0 : tp_M) : Option (Int) :=
  if ¬ (M0 483 49) = 1 then
    if 0 ≤ (tp_w ((M0 483 49) - 1)) ∧ (tp_w ((M0 483 49) - 1)) < 8 then
      if 0 ≤ (tp_w ((M0 483 49) - 1)) ∧ (tp_w ((M0 483 49) - 1)) < 8 then
        some (tp_w ((M0 521 (tp_w ((M0 483 49) - 1))) * (M0 523 (tp_w ((M0 483 49) - 1))))) else none else none
  else
    some 0
set_option maxHeartbeats 4000000 in
set_option maxRecDepth 100000 in
theorem T_X11_lift (G : tp_G) (M0 : tp_M) : tp_J i_X11_lift (tp_rm 0) G 0 0 (o_X11_lift M0) tp_NC (tp_st M0) 0 0 [some (.inr (.inr 483))] 0 [] (f_X11_lift M0) := by
  unfold f_X11_lift
  refine j_aload_n rfl d_X11_lift_0 rfl ?_
  refine j_geti fl_Model_300 tg_483 d_X11_lift_1 ?_
  refine j_iconst ⟨by decide, by decide⟩ d_X11_lift_4 ?_
  refine j_icmp_ne (tgt := 12) d_X11_lift_5 (by decide) (fun h1 => ?_) (fun h1 => ?_)
  · refine j_aload_n rfl d_X11_lift_12 rfl ?_
    refine j_getr fl_Model_122 tg_483 rv_483_50 d_X11_lift_13 ?_
    refine j_aload_n rfl d_X11_lift_16 rfl ?_
    refine j_geti fl_Model_300 tg_483 d_X11_lift_17 ?_
    refine j_iconst ⟨by decide, by decide⟩ d_X11_lift_20 ?_
    refine j_isub d_X11_lift_21 ?_
    refine j_iald tg_521 al_521 d_X11_lift_22 ?_
    refine j_aload_n rfl d_X11_lift_23 rfl ?_
    refine j_getr fl_Model_128 tg_483 rv_483_52 d_X11_lift_24 ?_
    refine j_aload_n rfl d_X11_lift_27 rfl ?_
    refine j_geti fl_Model_300 tg_483 d_X11_lift_28 ?_
    refine j_iconst ⟨by decide, by decide⟩ d_X11_lift_31 ?_
    refine j_isub d_X11_lift_32 ?_
    refine j_iald tg_523 al_523 d_X11_lift_33 ?_
    refine j_imul d_X11_lift_34 ?_
    exact j_iret d_X11_lift_35 rfl rfl ⟨rfl, rfl⟩
  · refine j_iconst ⟨by decide, by decide⟩ d_X11_lift_8 ?_
    refine j_goto (tgt := 35) d_X11_lift_9 (by decide) ?_
    exact j_iret d_X11_lift_35 rfl rfl ⟨rfl, rfl⟩
set_option maxHeartbeats 4000000 in
set_option maxRecDepth 100000 in
theorem c_X11_lift (G : tp_G) (M0 : tp_M) (r : Int) (h : f_X11_lift M0 = some r) (l : Launch) : Met l y_X11_lift (tp_ws y_X11_lift i_X11_lift) (tp_rm 0) (tp_Pc G [.inr (.inr 483)] tp_NC (tp_st M0)) (tp_Q G ((o_X11_lift M0) r)) 0 0 (tp_A G) :=
  tp_met (I := i_X11_lift) (y := y_X11_lift) (by decide +kernel) (Eq.refl "TypesAtPrimeModel") (Eq.refl "lift") (lv := [some (.inr (.inr 483))]) rfl (Nat.le_of_ble_eq_true rfl) (T_X11_lift G M0) h l
def y_X11_powerIn : MethodName := ⟨"TypesAtPrimeModel", "powerIn", "(J)I"⟩
abbrev i_X11_powerIn : tp_I := (prog_13_method_42_code, "TypesAtPrimeModel", (some .int), 6, "powerIn")
abbrev o_X11_powerIn (M : tp_M) : Int → tp_O := fun r => (some (.inl r), tp_NC, tp_st M)
theorem d_X11_powerIn_0 : decode prog_13_method_42_code 0 = .ok (.iconst 0, 1) := by decide +kernel
theorem d_X11_powerIn_1 : decode prog_13_method_42_code 1 = .ok (.istore_n 3, 1) := by decide +kernel
theorem d_X11_powerIn_2 : decode prog_13_method_42_code 2 = .ok (.lload_n 1, 1) := by decide +kernel
theorem d_X11_powerIn_3 : decode prog_13_method_42_code 3 = .ok (.lstore 4, 2) := by decide +kernel
theorem d_X11_powerIn_5 : decode prog_13_method_42_code 5 = .ok (.lload 4, 2) := by decide +kernel
theorem d_X11_powerIn_7 : decode prog_13_method_42_code 7 = .ok (.aload_n 0, 1) := by decide +kernel
theorem d_X11_powerIn_8 : decode prog_13_method_42_code 8 = .ok (.getfield 168, 3) := by decide +kernel
theorem d_X11_powerIn_11 : decode prog_13_method_42_code 11 = .ok (.i2l, 1) := by decide +kernel
theorem d_X11_powerIn_12 : decode prog_13_method_42_code 12 = .ok (.lrem, 1) := by decide +kernel
theorem d_X11_powerIn_13 : decode prog_13_method_42_code 13 = .ok (.lconst 0, 1) := by decide +kernel
theorem d_X11_powerIn_14 : decode prog_13_method_42_code 14 = .ok (.lcmp, 1) := by decide +kernel
theorem d_X11_powerIn_15 : decode prog_13_method_42_code 15 = .ok (.ifCond .ne 19, 3) := by decide +kernel
theorem d_X11_powerIn_18 : decode prog_13_method_42_code 18 = .ok (.iinc 3 1, 3) := by decide +kernel
theorem d_X11_powerIn_21 : decode prog_13_method_42_code 21 = .ok (.lload 4, 2) := by decide +kernel
theorem d_X11_powerIn_23 : decode prog_13_method_42_code 23 = .ok (.aload_n 0, 1) := by decide +kernel
theorem d_X11_powerIn_24 : decode prog_13_method_42_code 24 = .ok (.getfield 168, 3) := by decide +kernel
theorem d_X11_powerIn_27 : decode prog_13_method_42_code 27 = .ok (.i2l, 1) := by decide +kernel
theorem d_X11_powerIn_28 : decode prog_13_method_42_code 28 = .ok (.ldiv, 1) := by decide +kernel
theorem d_X11_powerIn_29 : decode prog_13_method_42_code 29 = .ok (.lstore 4, 2) := by decide +kernel
theorem d_X11_powerIn_31 : decode prog_13_method_42_code 31 = .ok (.goto (-26), 3) := by decide +kernel
theorem d_X11_powerIn_34 : decode prog_13_method_42_code 34 = .ok (.iload_n 3, 1) := by decide +kernel
theorem d_X11_powerIn_35 : decode prog_13_method_42_code 35 = .ok (.ireturn, 1) := by decide +kernel
def f_X11_powerIn_5B (M0 : tp_M) (rec_5 : Int → Int → Option (Int)) (x3 : Int) (x4 : Int) : Option (Int) :=
  if (M0 483 0) = 0 then none else
    if ¬ (Int.tmod x4 (M0 483 0)) = 0 then
      some x3
    else
      tp_lt (tp_w (x3 + 1)) fun y2 =>
      if (M0 483 0) = 0 then none else
        tp_lt ((tp_wl (Int.tdiv x4 (M0 483 0)))) fun y3 =>
        rec_5 y2 y3
set_option maxHeartbeats 4000000 in
set_option maxRecDepth 100000 in
theorem T_X11_powerIn_5B (G : tp_G) (M0 : tp_M) (rec_5 : Int → Int → Option (Int)) (hrec_5 : ∀ (x3' x4' : Int), tp_J i_X11_powerIn (tp_rm 0) G 0 0 (o_X11_powerIn M0) tp_NC (tp_st M0) 0 0 [some (.inr (.inr 483)), none, none, some (.inl (x3')), some (.inr (.inl (x4'))), none] 5 [] (rec_5 x3' x4')) (x3 : Int) (x4 : Int) : tp_J i_X11_powerIn (tp_rm 0) G 0 0 (o_X11_powerIn M0) tp_NC (tp_st M0) 0 0 [some (.inr (.inr 483)), none, none, some (.inl x3), some (.inr (.inl x4)), none] 5 [] (f_X11_powerIn_5B M0 rec_5 x3 x4) := by
  unfold f_X11_powerIn_5B
  refine j_lload d_X11_powerIn_5 rfl ?_
  refine j_aload_n rfl d_X11_powerIn_7 rfl ?_
  refine j_geti fl_Model_168 tg_483 d_X11_powerIn_8 ?_
  refine j_i2l d_X11_powerIn_11 ?_
  refine j_lrem d_X11_powerIn_12 ?_
  refine j_lconst (x := 0) ⟨by decide, by decide⟩ (by decide +kernel) d_X11_powerIn_13 ?_
  refine j_lcmp_ne (tgt := 34) d_X11_powerIn_14 rfl d_X11_powerIn_15 (by decide) (fun h1 => ?_) (fun h1 => ?_)
  · refine j_iload_n rfl d_X11_powerIn_34 rfl ?_
    exact j_iret d_X11_powerIn_35 rfl rfl ⟨rfl, rfl⟩
  · refine j_iincN (lv' := fun y2 => [some (.inr (.inr 483)), none, none, some (.inl y2), some (.inr (.inl x4)), none]) d_X11_powerIn_18 rfl (Nat.le_of_ble_eq_true rfl) (fun _ => rfl) (fun y2 hy2 => ?_)
    refine j_lload d_X11_powerIn_21 rfl ?_
    refine j_aload_n rfl d_X11_powerIn_23 rfl ?_
    refine j_geti fl_Model_168 tg_483 d_X11_powerIn_24 ?_
    refine j_i2l d_X11_powerIn_27 ?_
    refine j_ldiv d_X11_powerIn_28 ?_
    refine j_nmL (fun y3 hy3 => ?_)
    refine j_lstore (lv' := [some (.inr (.inr 483)), none, none, some (.inl y2), some (.inr (.inl y3)), none]) d_X11_powerIn_29 (Nat.le_of_ble_eq_true rfl) rfl ?_
    refine j_goto (tgt := 5) d_X11_powerIn_31 (by decide) ?_
    exact j_wk [true, false, false, true, true, false] rfl rfl (hrec_5 y2 y3)
def f_X11_powerIn_5 (x3 : Int) (x4 : Int) (M0 : tp_M) : Option (Int) := tp_lp (σ := Int × Int) (fun rec_ u => f_X11_powerIn_5B M0 (fun x3' x4' => rec_ (x3', x4')) u.1 u.2) tp_N (x3, x4)
set_option maxHeartbeats 4000000 in
set_option maxRecDepth 100000 in
theorem T_X11_powerIn_5 (G : tp_G) (x3 : Int) (x4 : Int) (M0 : tp_M) : tp_J i_X11_powerIn (tp_rm 0) G 0 0 (o_X11_powerIn M0) tp_NC (tp_st M0) 0 0 [some (.inr (.inr 483)), none, none, some (.inl x3), some (.inr (.inl x4)), none] 5 [] (f_X11_powerIn_5 x3 x4 M0) := by
  unfold f_X11_powerIn_5
  exact j_lp (σ := Int × Int) (n' := fun _ => tp_NC) (g' := fun u => tp_st M0) (k' := fun _ => 0) (q' := fun _ => 0) (lv' := fun u => [some (.inr (.inr 483)), none, none, some (.inl u.1), some (.inr (.inl u.2)), none]) (fun rec_ hrec u => T_X11_powerIn_5B G M0 (fun x3' x4' => rec_ (x3', x4')) (fun x3' x4' => hrec (x3', x4')) u.1 u.2) tp_N (x3, x4)
def f_X11_powerIn (a0 : Int) (M0 : tp_M) : Option (Int) :=
  f_X11_powerIn_5 0 a0 M0
set_option maxHeartbeats 4000000 in
set_option maxRecDepth 100000 in
theorem T_X11_powerIn (G : tp_G) (a0 : Int) (M0 : tp_M) : tp_J i_X11_powerIn (tp_rm 0) G 0 0 (o_X11_powerIn M0) tp_NC (tp_st M0) 0 0 [some (.inr (.inr 483)), some (.inr (.inl a0)), none, none, none, none] 0 [] (f_X11_powerIn a0 M0) := by
  unfold f_X11_powerIn
  refine j_iconst ⟨by decide, by decide⟩ d_X11_powerIn_0 ?_
  refine j_istore_n (lv' := [some (.inr (.inr 483)), some (.inr (.inl a0)), none, some (.inl 0), none, none]) rfl d_X11_powerIn_1 (Nat.le_of_ble_eq_true rfl) rfl ?_
  refine j_lload_n rfl d_X11_powerIn_2 rfl ?_
  refine j_lstore (lv' := [some (.inr (.inr 483)), some (.inr (.inl a0)), none, some (.inl 0), some (.inr (.inl a0)), none]) d_X11_powerIn_3 (Nat.le_of_ble_eq_true rfl) rfl ?_
  exact j_wk [true, false, false, true, true, false] rfl rfl (T_X11_powerIn_5 G 0 a0 M0)
set_option maxHeartbeats 4000000 in
set_option maxRecDepth 100000 in
theorem c_X11_powerIn (G : tp_G) (a0 : Int) (M0 : tp_M) (r : Int) (h : f_X11_powerIn a0 M0 = some r) (l : Launch) : Met l y_X11_powerIn (tp_ws y_X11_powerIn i_X11_powerIn) (tp_rm 0) (tp_Pc G [.inr (.inr 483), .inr (.inl a0)] tp_NC (tp_st M0)) (tp_Q G ((o_X11_powerIn M0) r)) 0 0 (tp_A G) :=
  tp_met (I := i_X11_powerIn) (y := y_X11_powerIn) (by decide +kernel) (Eq.refl "TypesAtPrimeModel") (Eq.refl "powerIn") (lv := [some (.inr (.inr 483)), some (.inr (.inl a0)), none, none, none, none]) rfl (Nat.le_of_ble_eq_true rfl) (T_X11_powerIn G a0 M0) h l
theorem wd_1083 : (.fieldLink "TypesAtPrimeModel" 137 "TypesAtPrimeModel" "monomial0" "[I" : Cond) ∈ lw_tbl := List.mem_append_right _ (List.mem_of_getElem? (i := 1083) (by decide +kernel))
theorem fl_Model_137 : tp_F "TypesAtPrimeModel" 137 11 55 2 := ⟨_, _, _, rfl, by decide, rfl, wd_1083, rfl, by decide⟩
theorem tg_526 : tp_tg 526 = 21 := by decide +kernel
theorem al_526 : tp_al 526 = 7 := by decide +kernel
theorem rv_483_55 : tp_rv 483 55 = 526 := by decide +kernel
theorem wd_1435 : (.code ⟨"TypesAtPrimeModel", "powerIn", "(J)I"⟩ prog_13_method_42_code 6 (some .int) : Cond) ∈ lw_tbl := List.mem_append_right _ (List.mem_of_getElem? (i := 1435) (by decide +kernel))
theorem cs_Model_303 : tp_CS "TypesAtPrimeModel" 303 y_X11_powerIn i_X11_powerIn 1 := ⟨wd_1435, wd_12, by decide, by decide, by decide +kernel⟩
theorem wd_1432 : (.methodLink "TypesAtPrimeModel" 303 ⟨"TypesAtPrimeModel", "powerIn", "(J)I"⟩ : Cond) ∈ lw_tbl := List.mem_append_right _ (List.mem_of_getElem? (i := 1432) (by decide +kernel))
theorem wd_1434 : (.instanceMethod ⟨"TypesAtPrimeModel", "powerIn", "(J)I"⟩ : Cond) ∈ lw_tbl := List.mem_append_right _ (List.mem_of_getElem? (i := 1434) (by decide +kernel))
theorem ws_69 : (.selects "TypesAtPrimeModel" ⟨"TypesAtPrimeModel", "powerIn", "(J)I"⟩ ⟨"TypesAtPrimeModel", "powerIn", "(J)I"⟩ : Cond) ∈ lw_tbl := List.mem_append_left _ (List.mem_of_getElem? (i := 69) (by decide +kernel))
theorem wd_1084 : (.fieldLink "TypesAtPrimeModel" 309 "TypesAtPrimeModel" "headResidue" "I" : Cond) ∈ lw_tbl := List.mem_append_right _ (List.mem_of_getElem? (i := 1084) (by decide +kernel))
theorem fl_Model_309 : tp_F "TypesAtPrimeModel" 309 11 56 0 := ⟨_, _, _, rfl, by decide, rfl, wd_1084, rfl, by decide⟩
theorem pf_11_56 (v : Int) : ∀ (C : String) (T : u_T) (N : Nat), vwCl[11]? = some (C, T, N) → (T 56).2.2.2 = false ∧ ∀ G : tp_G, ∃ ty, parseFieldDescriptor (T 56).2.2.1 = some ty ∧ narrow ty (tp_enc G (tp_zv 0 v)) = tp_enc G (tp_zv 0 v) ∧ fits ty (tp_enc G (tp_zv 0 v)) = true := by
  intro C T N h
  cases h
  exact ⟨rfl, fun G => ⟨_, tyX11_ok 56 (by decide), rfl, rfl⟩⟩
def y_X11_laysHead : MethodName := ⟨"TypesAtPrimeModel", "laysHead", "(II)V"⟩
abbrev i_X11_laysHead : tp_I := (prog_13_method_44_code, "TypesAtPrimeModel", none, 6, "laysHead")
abbrev o_X11_laysHead : tp_M → tp_O := fun r => (none, tp_NC, tp_st r)
theorem d_X11_laysHead_0 : decode prog_13_method_44_code 0 = .ok (.iconst 0, 1) := by decide +kernel
theorem d_X11_laysHead_1 : decode prog_13_method_44_code 1 = .ok (.istore_n 3, 1) := by decide +kernel
theorem d_X11_laysHead_2 : decode prog_13_method_44_code 2 = .ok (.iload_n 3, 1) := by decide +kernel
theorem d_X11_laysHead_3 : decode prog_13_method_44_code 3 = .ok (.bipush 7, 2) := by decide +kernel
theorem d_X11_laysHead_5 : decode prog_13_method_44_code 5 = .ok (.if_icmp .ge 16, 3) := by decide +kernel
theorem d_X11_laysHead_8 : decode prog_13_method_44_code 8 = .ok (.aload_n 0, 1) := by decide +kernel
theorem d_X11_laysHead_9 : decode prog_13_method_44_code 9 = .ok (.getfield 137, 3) := by decide +kernel
theorem d_X11_laysHead_12 : decode prog_13_method_44_code 12 = .ok (.iload_n 3, 1) := by decide +kernel
theorem d_X11_laysHead_13 : decode prog_13_method_44_code 13 = .ok (.iconst 0, 1) := by decide +kernel
theorem d_X11_laysHead_14 : decode prog_13_method_44_code 14 = .ok (.iastore, 1) := by decide +kernel
theorem d_X11_laysHead_15 : decode prog_13_method_44_code 15 = .ok (.iinc 3 1, 3) := by decide +kernel
theorem d_X11_laysHead_18 : decode prog_13_method_44_code 18 = .ok (.goto (-16), 3) := by decide +kernel
theorem d_X11_laysHead_21 : decode prog_13_method_44_code 21 = .ok (.iload_n 2, 1) := by decide +kernel
theorem d_X11_laysHead_22 : decode prog_13_method_44_code 22 = .ok (.ifCond .ge 4, 3) := by decide +kernel
theorem d_X11_laysHead_25 : decode prog_13_method_44_code 25 = .ok (.return_, 1) := by decide +kernel
theorem d_X11_laysHead_26 : decode prog_13_method_44_code 26 = .ok (.aload_n 0, 1) := by decide +kernel
theorem d_X11_laysHead_27 : decode prog_13_method_44_code 27 = .ok (.getfield 137, 3) := by decide +kernel
theorem d_X11_laysHead_30 : decode prog_13_method_44_code 30 = .ok (.iconst 0, 1) := by decide +kernel
theorem d_X11_laysHead_31 : decode prog_13_method_44_code 31 = .ok (.aload_n 0, 1) := by decide +kernel
theorem d_X11_laysHead_32 : decode prog_13_method_44_code 32 = .ok (.aload_n 0, 1) := by decide +kernel
theorem d_X11_laysHead_33 : decode prog_13_method_44_code 33 = .ok (.getfield 20, 3) := by decide +kernel
theorem d_X11_laysHead_36 : decode prog_13_method_44_code 36 = .ok (.iload_n 1, 1) := by decide +kernel
theorem d_X11_laysHead_37 : decode prog_13_method_44_code 37 = .ok (.iload_n 2, 1) := by decide +kernel
theorem d_X11_laysHead_38 : decode prog_13_method_44_code 38 = .ok (.iadd, 1) := by decide +kernel
theorem d_X11_laysHead_39 : decode prog_13_method_44_code 39 = .ok (.laload, 1) := by decide +kernel
theorem d_X11_laysHead_40 : decode prog_13_method_44_code 40 = .ok (.invokevirtual 303, 3) := by decide +kernel
theorem d_X11_laysHead_43 : decode prog_13_method_44_code 43 = .ok (.iastore, 1) := by decide +kernel
theorem d_X11_laysHead_44 : decode prog_13_method_44_code 44 = .ok (.iconst 1, 1) := by decide +kernel
theorem d_X11_laysHead_45 : decode prog_13_method_44_code 45 = .ok (.istore_n 3, 1) := by decide +kernel
theorem d_X11_laysHead_46 : decode prog_13_method_44_code 46 = .ok (.iload_n 3, 1) := by decide +kernel
theorem d_X11_laysHead_47 : decode prog_13_method_44_code 47 = .ok (.aload_n 0, 1) := by decide +kernel
theorem d_X11_laysHead_48 : decode prog_13_method_44_code 48 = .ok (.getfield 300, 3) := by decide +kernel
theorem d_X11_laysHead_51 : decode prog_13_method_44_code 51 = .ok (.if_icmp .ge 30, 3) := by decide +kernel
theorem d_X11_laysHead_54 : decode prog_13_method_44_code 54 = .ok (.aload_n 0, 1) := by decide +kernel
theorem d_X11_laysHead_55 : decode prog_13_method_44_code 55 = .ok (.getfield 137, 3) := by decide +kernel
theorem d_X11_laysHead_58 : decode prog_13_method_44_code 58 = .ok (.iload_n 3, 1) := by decide +kernel
theorem d_X11_laysHead_59 : decode prog_13_method_44_code 59 = .ok (.iload_n 2, 1) := by decide +kernel
theorem d_X11_laysHead_60 : decode prog_13_method_44_code 60 = .ok (.aload_n 0, 1) := by decide +kernel
theorem d_X11_laysHead_61 : decode prog_13_method_44_code 61 = .ok (.getfield 125, 3) := by decide +kernel
theorem d_X11_laysHead_64 : decode prog_13_method_44_code 64 = .ok (.iload_n 3, 1) := by decide +kernel
theorem d_X11_laysHead_65 : decode prog_13_method_44_code 65 = .ok (.iaload, 1) := by decide +kernel
theorem d_X11_laysHead_66 : decode prog_13_method_44_code 66 = .ok (.idiv, 1) := by decide +kernel
theorem d_X11_laysHead_67 : decode prog_13_method_44_code 67 = .ok (.aload_n 0, 1) := by decide +kernel
theorem d_X11_laysHead_68 : decode prog_13_method_44_code 68 = .ok (.getfield 122, 3) := by decide +kernel
theorem d_X11_laysHead_71 : decode prog_13_method_44_code 71 = .ok (.iload_n 3, 1) := by decide +kernel
theorem d_X11_laysHead_72 : decode prog_13_method_44_code 72 = .ok (.iaload, 1) := by decide +kernel
theorem d_X11_laysHead_73 : decode prog_13_method_44_code 73 = .ok (.irem, 1) := by decide +kernel
theorem d_X11_laysHead_74 : decode prog_13_method_44_code 74 = .ok (.iastore, 1) := by decide +kernel
theorem d_X11_laysHead_75 : decode prog_13_method_44_code 75 = .ok (.iinc 3 1, 3) := by decide +kernel
theorem d_X11_laysHead_78 : decode prog_13_method_44_code 78 = .ok (.goto (-32), 3) := by decide +kernel
theorem d_X11_laysHead_81 : decode prog_13_method_44_code 81 = .ok (.aload_n 0, 1) := by decide +kernel
theorem d_X11_laysHead_82 : decode prog_13_method_44_code 82 = .ok (.getfield 20, 3) := by decide +kernel
theorem d_X11_laysHead_85 : decode prog_13_method_44_code 85 = .ok (.iload_n 1, 1) := by decide +kernel
theorem d_X11_laysHead_86 : decode prog_13_method_44_code 86 = .ok (.iload_n 2, 1) := by decide +kernel
theorem d_X11_laysHead_87 : decode prog_13_method_44_code 87 = .ok (.iadd, 1) := by decide +kernel
theorem d_X11_laysHead_88 : decode prog_13_method_44_code 88 = .ok (.laload, 1) := by decide +kernel
theorem d_X11_laysHead_89 : decode prog_13_method_44_code 89 = .ok (.lstore_n 3, 1) := by decide +kernel
theorem d_X11_laysHead_90 : decode prog_13_method_44_code 90 = .ok (.iconst 0, 1) := by decide +kernel
theorem d_X11_laysHead_91 : decode prog_13_method_44_code 91 = .ok (.istore 5, 2) := by decide +kernel
theorem d_X11_laysHead_93 : decode prog_13_method_44_code 93 = .ok (.iload 5, 2) := by decide +kernel
theorem d_X11_laysHead_95 : decode prog_13_method_44_code 95 = .ok (.aload_n 0, 1) := by decide +kernel
theorem d_X11_laysHead_96 : decode prog_13_method_44_code 96 = .ok (.getfield 137, 3) := by decide +kernel
theorem d_X11_laysHead_99 : decode prog_13_method_44_code 99 = .ok (.iconst 0, 1) := by decide +kernel
theorem d_X11_laysHead_100 : decode prog_13_method_44_code 100 = .ok (.iaload, 1) := by decide +kernel
theorem d_X11_laysHead_101 : decode prog_13_method_44_code 101 = .ok (.if_icmp .ge 17, 3) := by decide +kernel
theorem d_X11_laysHead_104 : decode prog_13_method_44_code 104 = .ok (.lload_n 3, 1) := by decide +kernel
theorem d_X11_laysHead_105 : decode prog_13_method_44_code 105 = .ok (.aload_n 0, 1) := by decide +kernel
theorem d_X11_laysHead_106 : decode prog_13_method_44_code 106 = .ok (.getfield 168, 3) := by decide +kernel
theorem d_X11_laysHead_109 : decode prog_13_method_44_code 109 = .ok (.i2l, 1) := by decide +kernel
theorem d_X11_laysHead_110 : decode prog_13_method_44_code 110 = .ok (.ldiv, 1) := by decide +kernel
theorem d_X11_laysHead_111 : decode prog_13_method_44_code 111 = .ok (.lstore_n 3, 1) := by decide +kernel
theorem d_X11_laysHead_112 : decode prog_13_method_44_code 112 = .ok (.iinc 5 1, 3) := by decide +kernel
theorem d_X11_laysHead_115 : decode prog_13_method_44_code 115 = .ok (.goto (-22), 3) := by decide +kernel
theorem d_X11_laysHead_118 : decode prog_13_method_44_code 118 = .ok (.aload_n 0, 1) := by decide +kernel
theorem d_X11_laysHead_119 : decode prog_13_method_44_code 119 = .ok (.aload_n 0, 1) := by decide +kernel
theorem d_X11_laysHead_120 : decode prog_13_method_44_code 120 = .ok (.lload_n 3, 1) := by decide +kernel
theorem d_X11_laysHead_121 : decode prog_13_method_44_code 121 = .ok (.invokevirtual 268, 3) := by decide +kernel
theorem d_X11_laysHead_124 : decode prog_13_method_44_code 124 = .ok (.putfield 309, 3) := by decide +kernel
theorem d_X11_laysHead_127 : decode prog_13_method_44_code 127 = .ok (.return_, 1) := by decide +kernel
def f_X11_laysHead_93B (M0 : tp_M) (rec_93 : Int → Int → Option (tp_M)) (x3 : Int) (x5 : Int) : Option (tp_M) :=
  if (0 : Int) ≤ 0 ∧ (0 : Int) < 7 then
    if (M0 526 0) ≤ x5 then
      (f_X11_residue x3 M0).bind fun r9 =>
      tp_mp (tp_up M0 483 56 r9) fun M11 =>
      some M11
    else
      if (M0 483 0) = 0 then none else
        tp_lt ((tp_wl (Int.tdiv x3 (M0 483 0)))) fun y12 =>
        tp_lt (tp_w (x5 + 1)) fun y13 =>
        rec_93 y12 y13 else none
set_option maxHeartbeats 4000000 in
set_option maxRecDepth 100000 in
theorem T_X11_laysHead_93B (G : tp_G) (M0 : tp_M) (rec_93 : Int → Int → Option (tp_M)) (hrec_93 : ∀ (x3' x5' : Int), tp_J i_X11_laysHead (tp_rm 1) G 0 0 o_X11_laysHead tp_NC (tp_st M0) 0 0 [some (.inr (.inr 483)), none, none, some (.inr (.inl (x3'))), none, some (.inl (x5'))] 93 [] (rec_93 x3' x5')) (x3 : Int) (x5 : Int) : tp_J i_X11_laysHead (tp_rm 1) G 0 0 o_X11_laysHead tp_NC (tp_st M0) 0 0 [some (.inr (.inr 483)), none, none, some (.inr (.inl x3)), none, some (.inl x5)] 93 [] (f_X11_laysHead_93B M0 rec_93 x3 x5) := by
  unfold f_X11_laysHead_93B
  refine j_iload d_X11_laysHead_93 rfl ?_
  refine j_aload_n rfl d_X11_laysHead_95 rfl ?_
  refine j_getr fl_Model_137 tg_483 rv_483_55 d_X11_laysHead_96 ?_
  refine j_iconst ⟨by decide, by decide⟩ d_X11_laysHead_99 ?_
  refine j_iald tg_526 al_526 d_X11_laysHead_100 ?_
  refine j_icmp_ge (tgt := 118) d_X11_laysHead_101 (by decide) (fun h8 => ?_) (fun h8 => ?_)
  · refine j_aload_n rfl d_X11_laysHead_118 rfl ?_
    refine j_aload_n rfl d_X11_laysHead_119 rfl ?_
    refine j_lload_n rfl d_X11_laysHead_120 rfl ?_
    refine j_bind (fun r9 h10 => ?_)
    refine j_callV (y := y_X11_residue) (I' := i_X11_residue) (avs := [.inr (.inl x3)]) (c := 483) (st := [.inr (.inr 483)]) (c_X11_residue G x3 M0 r9 h10) cs_Model_268 wd_1356 wd_1358 ws_51 tg_483 rfl rfl rfl (Nat.le_of_ble_eq_true rfl) ⟨rfl, rfl⟩ ⟨by decide, by decide⟩ ⟨by decide, by decide⟩ d_X11_laysHead_121 ?_
    refine j_put (z := 0) (v := r9) fl_Model_309 (by decide) tg_483 (pf_11_56 _) pt_11 d_X11_laysHead_124 (fun M11 hM11 => ?_)
    exact j_vret d_X11_laysHead_127 rfl rfl ⟨rfl, rfl⟩
  · refine j_lload_n rfl d_X11_laysHead_104 rfl ?_
    refine j_aload_n rfl d_X11_laysHead_105 rfl ?_
    refine j_geti fl_Model_168 tg_483 d_X11_laysHead_106 ?_
    refine j_i2l d_X11_laysHead_109 ?_
    refine j_ldiv d_X11_laysHead_110 ?_
    refine j_nmL (fun y12 hy12 => ?_)
    refine j_lstore_n (lv' := [some (.inr (.inr 483)), none, none, some (.inr (.inl y12)), none, some (.inl x5)]) rfl d_X11_laysHead_111 (Nat.le_of_ble_eq_true rfl) rfl ?_
    refine j_iincN (lv' := fun y13 => [some (.inr (.inr 483)), none, none, some (.inr (.inl y12)), none, some (.inl y13)]) d_X11_laysHead_112 rfl (Nat.le_of_ble_eq_true rfl) (fun _ => rfl) (fun y13 hy13 => ?_)
    refine j_goto (tgt := 93) d_X11_laysHead_115 (by decide) ?_
    exact j_wk [true, false, false, true, false, true] rfl rfl (hrec_93 y12 y13)
def f_X11_laysHead_93 (x3 : Int) (x5 : Int) (M0 : tp_M) : Option (tp_M) := tp_lp (σ := Int × Int) (fun rec_ u => f_X11_laysHead_93B M0 (fun x3' x5' => rec_ (x3', x5')) u.1 u.2) tp_N (x3, x5)
set_option maxHeartbeats 4000000 in
set_option maxRecDepth 100000 in
theorem T_X11_laysHead_93 (G : tp_G) (x3 : Int) (x5 : Int) (M0 : tp_M) : tp_J i_X11_laysHead (tp_rm 1) G 0 0 o_X11_laysHead tp_NC (tp_st M0) 0 0 [some (.inr (.inr 483)), none, none, some (.inr (.inl x3)), none, some (.inl x5)] 93 [] (f_X11_laysHead_93 x3 x5 M0) := by
  unfold f_X11_laysHead_93
  exact j_lp (σ := Int × Int) (n' := fun _ => tp_NC) (g' := fun u => tp_st M0) (k' := fun _ => 0) (q' := fun _ => 0) (lv' := fun u => [some (.inr (.inr 483)), none, none, some (.inr (.inl u.1)), none, some (.inl u.2)]) (fun rec_ hrec u => T_X11_laysHead_93B G M0 (fun x3' x5' => rec_ (x3', x5')) (fun x3' x5' => hrec (x3', x5')) u.1 u.2) tp_N (x3, x5)
def f_X11_laysHead_46B (x1 : Int) (x2 : Int) (rec_46 : Int → tp_M → Option (tp_M)) (x3 : Int) (M0 : tp_M) : Option (tp_M) :=
  if (M0 483 49) ≤ x3 then
    if 0 ≤ (tp_w (x1 + x2)) ∧ (tp_w (x1 + x2)) < 24 then
      tp_lt ((M0 487 (tp_w (x1 + x2)))) fun y7 =>
      f_X11_laysHead_93 y7 0 M0 else none
  else
    if 0 ≤ x3 ∧ x3 < 8 then
      if (M0 522 x3) = 0 then none else
        if 0 ≤ x3 ∧ x3 < 8 then
          if (M0 521 x3) = 0 then none else
            if 0 ≤ x3 ∧ x3 < 7 then
              tp_mp (tp_up M0 526 x3 (Int.tmod (tp_w (Int.tdiv x2 (M0 522 x3))) (M0 521 x3))) fun M14 =>
              tp_lt (tp_w (x3 + 1)) fun y15 =>
              rec_46 y15 M14 else none else none else none
set_option maxHeartbeats 4000000 in
set_option maxRecDepth 100000 in
theorem T_X11_laysHead_46B (G : tp_G) (x1 : Int) (x2 : Int) (rec_46 : Int → tp_M → Option (tp_M)) (hrec_46 : ∀ (x3' : Int) (M' : tp_M), tp_J i_X11_laysHead (tp_rm 1) G 0 0 o_X11_laysHead tp_NC (tp_st M') 0 0 [some (.inr (.inr 483)), some (.inl x1), some (.inl x2), some (.inl (x3')), none, none] 46 [] (rec_46 x3' M')) (x3 : Int) (M0 : tp_M) : tp_J i_X11_laysHead (tp_rm 1) G 0 0 o_X11_laysHead tp_NC (tp_st M0) 0 0 [some (.inr (.inr 483)), some (.inl x1), some (.inl x2), some (.inl x3), none, none] 46 [] (f_X11_laysHead_46B x1 x2 rec_46 x3 M0) := by
  unfold f_X11_laysHead_46B
  refine j_iload_n rfl d_X11_laysHead_46 rfl ?_
  refine j_aload_n rfl d_X11_laysHead_47 rfl ?_
  refine j_geti fl_Model_300 tg_483 d_X11_laysHead_48 ?_
  refine j_icmp_ge (tgt := 81) d_X11_laysHead_51 (by decide) (fun h6 => ?_) (fun h6 => ?_)
  · refine j_aload_n rfl d_X11_laysHead_81 rfl ?_
    refine j_getr fl_Model_20 tg_483 rv_483_8 d_X11_laysHead_82 ?_
    refine j_iload_n rfl d_X11_laysHead_85 rfl ?_
    refine j_iload_n rfl d_X11_laysHead_86 rfl ?_
    refine j_iadd d_X11_laysHead_87 ?_
    refine j_lald tg_487 al_487 d_X11_laysHead_88 ?_
    refine j_nmL (fun y7 hy7 => ?_)
    refine j_lstore_n (lv' := [some (.inr (.inr 483)), some (.inl x1), some (.inl x2), some (.inr (.inl y7)), none, none]) rfl d_X11_laysHead_89 (Nat.le_of_ble_eq_true rfl) rfl ?_
    refine j_iconst ⟨by decide, by decide⟩ d_X11_laysHead_90 ?_
    refine j_istore (lv' := [some (.inr (.inr 483)), some (.inl x1), some (.inl x2), some (.inr (.inl y7)), none, some (.inl 0)]) d_X11_laysHead_91 (Nat.le_of_ble_eq_true rfl) rfl ?_
    exact j_wk [true, false, false, true, false, true] rfl rfl (T_X11_laysHead_93 G y7 0 M0)
  · refine j_aload_n rfl d_X11_laysHead_54 rfl ?_
    refine j_getr fl_Model_137 tg_483 rv_483_55 d_X11_laysHead_55 ?_
    refine j_iload_n rfl d_X11_laysHead_58 rfl ?_
    refine j_iload_n rfl d_X11_laysHead_59 rfl ?_
    refine j_aload_n rfl d_X11_laysHead_60 rfl ?_
    refine j_getr fl_Model_125 tg_483 rv_483_51 d_X11_laysHead_61 ?_
    refine j_iload_n rfl d_X11_laysHead_64 rfl ?_
    refine j_iald tg_522 al_522 d_X11_laysHead_65 ?_
    refine j_idiv d_X11_laysHead_66 ?_
    refine j_aload_n rfl d_X11_laysHead_67 rfl ?_
    refine j_getr fl_Model_122 tg_483 rv_483_50 d_X11_laysHead_68 ?_
    refine j_iload_n rfl d_X11_laysHead_71 rfl ?_
    refine j_iald tg_521 al_521 d_X11_laysHead_72 ?_
    refine j_irem d_X11_laysHead_73 ?_
    refine j_iast tg_526 al_526 d_X11_laysHead_74 (fun M14 hM14 => ?_)
    refine j_iincN (lv' := fun y15 => [some (.inr (.inr 483)), some (.inl x1), some (.inl x2), some (.inl y15), none, none]) d_X11_laysHead_75 rfl (Nat.le_of_ble_eq_true rfl) (fun _ => rfl) (fun y15 hy15 => ?_)
    refine j_goto (tgt := 46) d_X11_laysHead_78 (by decide) ?_
    exact j_wk [true, true, true, true, false, false] rfl rfl (hrec_46 y15 M14)
def f_X11_laysHead_46 (x1 : Int) (x2 : Int) (x3 : Int) (M0 : tp_M) : Option (tp_M) := tp_lp (σ := Int × tp_M) (fun rec_ u => f_X11_laysHead_46B x1 x2 (fun x3' M0' => rec_ (x3', M0')) u.1 u.2) tp_N (x3, M0)
set_option maxHeartbeats 4000000 in
set_option maxRecDepth 100000 in
theorem T_X11_laysHead_46 (G : tp_G) (x1 : Int) (x2 : Int) (x3 : Int) (M0 : tp_M) : tp_J i_X11_laysHead (tp_rm 1) G 0 0 o_X11_laysHead tp_NC (tp_st M0) 0 0 [some (.inr (.inr 483)), some (.inl x1), some (.inl x2), some (.inl x3), none, none] 46 [] (f_X11_laysHead_46 x1 x2 x3 M0) := by
  unfold f_X11_laysHead_46
  exact j_lp (σ := Int × tp_M) (n' := fun _ => tp_NC) (g' := fun u => tp_st u.2) (k' := fun _ => 0) (q' := fun _ => 0) (lv' := fun u => [some (.inr (.inr 483)), some (.inl x1), some (.inl x2), some (.inl u.1), none, none]) (fun rec_ hrec u => T_X11_laysHead_46B G x1 x2 (fun x3' M0' => rec_ (x3', M0')) (fun x3' M0' => hrec (x3', M0')) u.1 u.2) tp_N (x3, M0)
def f_X11_laysHead_2B (x1 : Int) (x2 : Int) (rec_2 : Int → tp_M → Option (tp_M)) (x3 : Int) (M0 : tp_M) : Option (tp_M) :=
  if 7 ≤ x3 then
    if 0 ≤ x2 then
      if 0 ≤ (tp_w (x1 + x2)) ∧ (tp_w (x1 + x2)) < 24 then
        (f_X11_powerIn (M0 487 (tp_w (x1 + x2))) M0).bind fun r3 =>
        if (0 : Int) ≤ 0 ∧ (0 : Int) < 7 then
          tp_mp (tp_up M0 526 0 r3) fun M5 =>
          f_X11_laysHead_46 x1 x2 1 M5 else none else none
    else
      some M0
  else
    if 0 ≤ x3 ∧ x3 < 7 then
      tp_mp (tp_up M0 526 x3 0) fun M16 =>
      tp_lt (tp_w (x3 + 1)) fun y17 =>
      rec_2 y17 M16 else none
set_option maxHeartbeats 4000000 in
set_option maxRecDepth 100000 in
theorem T_X11_laysHead_2B (G : tp_G) (x1 : Int) (x2 : Int) (rec_2 : Int → tp_M → Option (tp_M)) (hrec_2 : ∀ (x3' : Int) (M' : tp_M), tp_J i_X11_laysHead (tp_rm 1) G 0 0 o_X11_laysHead tp_NC (tp_st M') 0 0 [some (.inr (.inr 483)), some (.inl x1), some (.inl x2), some (.inl (x3')), none, none] 2 [] (rec_2 x3' M')) (x3 : Int) (M0 : tp_M) : tp_J i_X11_laysHead (tp_rm 1) G 0 0 o_X11_laysHead tp_NC (tp_st M0) 0 0 [some (.inr (.inr 483)), some (.inl x1), some (.inl x2), some (.inl x3), none, none] 2 [] (f_X11_laysHead_2B x1 x2 rec_2 x3 M0) := by
  unfold f_X11_laysHead_2B
  refine j_iload_n rfl d_X11_laysHead_2 rfl ?_
  refine j_bipush ⟨by decide, by decide⟩ (by decide +kernel) d_X11_laysHead_3 ?_
  refine j_icmp_ge (tgt := 21) d_X11_laysHead_5 (by decide) (fun h1 => ?_) (fun h1 => ?_)
  · refine j_iload_n rfl d_X11_laysHead_21 rfl ?_
    refine j_if_ge (tgt := 26) d_X11_laysHead_22 (by decide) (fun h2 => ?_) (fun h2 => ?_)
    · refine j_aload_n rfl d_X11_laysHead_26 rfl ?_
      refine j_getr fl_Model_137 tg_483 rv_483_55 d_X11_laysHead_27 ?_
      refine j_iconst ⟨by decide, by decide⟩ d_X11_laysHead_30 ?_
      refine j_aload_n rfl d_X11_laysHead_31 rfl ?_
      refine j_aload_n rfl d_X11_laysHead_32 rfl ?_
      refine j_getr fl_Model_20 tg_483 rv_483_8 d_X11_laysHead_33 ?_
      refine j_iload_n rfl d_X11_laysHead_36 rfl ?_
      refine j_iload_n rfl d_X11_laysHead_37 rfl ?_
      refine j_iadd d_X11_laysHead_38 ?_
      refine j_lald tg_487 al_487 d_X11_laysHead_39 ?_
      refine j_bind (fun r3 h4 => ?_)
      refine j_callV (y := y_X11_powerIn) (I' := i_X11_powerIn) (avs := [.inr (.inl (M0 487 (tp_w (x1 + x2))))]) (c := 483) (st := [.inl 0, .inr (.inr 526)]) (c_X11_powerIn G (M0 487 (tp_w (x1 + x2))) M0 r3 h4) cs_Model_303 wd_1432 wd_1434 ws_69 tg_483 rfl rfl rfl (Nat.le_of_ble_eq_true rfl) ⟨rfl, rfl⟩ ⟨by decide, by decide⟩ ⟨by decide, by decide⟩ d_X11_laysHead_40 ?_
      refine j_iast tg_526 al_526 d_X11_laysHead_43 (fun M5 hM5 => ?_)
      refine j_iconst ⟨by decide, by decide⟩ d_X11_laysHead_44 ?_
      refine j_istore_n (lv' := [some (.inr (.inr 483)), some (.inl x1), some (.inl x2), some (.inl 1), none, none]) rfl d_X11_laysHead_45 (Nat.le_of_ble_eq_true rfl) rfl ?_
      exact j_wk [true, true, true, true, false, false] rfl rfl (T_X11_laysHead_46 G x1 x2 1 M5)
    · exact j_vret d_X11_laysHead_25 rfl rfl ⟨rfl, rfl⟩
  · refine j_aload_n rfl d_X11_laysHead_8 rfl ?_
    refine j_getr fl_Model_137 tg_483 rv_483_55 d_X11_laysHead_9 ?_
    refine j_iload_n rfl d_X11_laysHead_12 rfl ?_
    refine j_iconst ⟨by decide, by decide⟩ d_X11_laysHead_13 ?_
    refine j_iast tg_526 al_526 d_X11_laysHead_14 (fun M16 hM16 => ?_)
    refine j_iincN (lv' := fun y17 => [some (.inr (.inr 483)), some (.inl x1), some (.inl x2), some (.inl y17), none, none]) d_X11_laysHead_15 rfl (Nat.le_of_ble_eq_true rfl) (fun _ => rfl) (fun y17 hy17 => ?_)
    refine j_goto (tgt := 2) d_X11_laysHead_18 (by decide) ?_
    exact j_wk [true, true, true, true, false, false] rfl rfl (hrec_2 y17 M16)
def f_X11_laysHead_2 (x1 : Int) (x2 : Int) (x3 : Int) (M0 : tp_M) : Option (tp_M) := tp_lp (σ := Int × tp_M) (fun rec_ u => f_X11_laysHead_2B x1 x2 (fun x3' M0' => rec_ (x3', M0')) u.1 u.2) tp_N (x3, M0)
set_option maxHeartbeats 4000000 in
set_option maxRecDepth 100000 in
theorem T_X11_laysHead_2 (G : tp_G) (x1 : Int) (x2 : Int) (x3 : Int) (M0 : tp_M) : tp_J i_X11_laysHead (tp_rm 1) G 0 0 o_X11_laysHead tp_NC (tp_st M0) 0 0 [some (.inr (.inr 483)), some (.inl x1), some (.inl x2), some (.inl x3), none, none] 2 [] (f_X11_laysHead_2 x1 x2 x3 M0) := by
  unfold f_X11_laysHead_2
  exact j_lp (σ := Int × tp_M) (n' := fun _ => tp_NC) (g' := fun u => tp_st u.2) (k' := fun _ => 0) (q' := fun _ => 0) (lv' := fun u => [some (.inr (.inr 483)), some (.inl x1), some (.inl x2), some (.inl u.1), none, none]) (fun rec_ hrec u => T_X11_laysHead_2B G x1 x2 (fun x3' M0' => rec_ (x3', M0')) (fun x3' M0' => hrec (x3', M0')) u.1 u.2) tp_N (x3, M0)
def f_X11_laysHead (a0 : Int) (a1 : Int) (M0 : tp_M) : Option (tp_M) :=
  f_X11_laysHead_2 a0 a1 0 M0
set_option maxHeartbeats 4000000 in
set_option maxRecDepth 100000 in
theorem T_X11_laysHead (G : tp_G) (a0 : Int) (a1 : Int) (M0 : tp_M) : tp_J i_X11_laysHead (tp_rm 1) G 0 0 o_X11_laysHead tp_NC (tp_st M0) 0 0 [some (.inr (.inr 483)), some (.inl a0), some (.inl a1), none, none, none] 0 [] (f_X11_laysHead a0 a1 M0) := by
  unfold f_X11_laysHead
  refine j_iconst ⟨by decide, by decide⟩ d_X11_laysHead_0 ?_
  refine j_istore_n (lv' := [some (.inr (.inr 483)), some (.inl a0), some (.inl a1), some (.inl 0), none, none]) rfl d_X11_laysHead_1 (Nat.le_of_ble_eq_true rfl) rfl ?_
  exact j_wk [true, true, true, true, false, false] rfl rfl (T_X11_laysHead_2 G a0 a1 0 M0)
set_option maxHeartbeats 4000000 in
set_option maxRecDepth 100000 in
theorem c_X11_laysHead (G : tp_G) (a0 : Int) (a1 : Int) (M0 : tp_M) (r : tp_M) (h : f_X11_laysHead a0 a1 M0 = some r) (l : Launch) : Met l y_X11_laysHead (tp_ws y_X11_laysHead i_X11_laysHead) (tp_rm 1) (tp_Pc G [.inr (.inr 483), .inl a0, .inl a1] tp_NC (tp_st M0)) (tp_Q G (o_X11_laysHead r)) 0 0 (tp_A G) :=
  tp_met (I := i_X11_laysHead) (y := y_X11_laysHead) (by decide +kernel) (Eq.refl "TypesAtPrimeModel") (Eq.refl "laysHead") (lv := [some (.inr (.inr 483)), some (.inl a0), some (.inl a1), none, none, none]) rfl (Nat.le_of_ble_eq_true rfl) (T_X11_laysHead G a0 a1 M0) h l
theorem wd_1439 : (.code ⟨"TypesAtPrimeModel", "laysHead", "(II)V"⟩ prog_13_method_44_code 6 (none : Option Jvm.ClassFile.FieldType) : Cond) ∈ lw_tbl := List.mem_append_right _ (List.mem_of_getElem? (i := 1439) (by decide +kernel))
theorem cs_Model_306 : tp_CS "TypesAtPrimeModel" 306 y_X11_laysHead i_X11_laysHead 2 := ⟨wd_1439, wd_12, by decide, by decide, by decide +kernel⟩
theorem wd_1436 : (.methodLink "TypesAtPrimeModel" 306 ⟨"TypesAtPrimeModel", "laysHead", "(II)V"⟩ : Cond) ∈ lw_tbl := List.mem_append_right _ (List.mem_of_getElem? (i := 1436) (by decide +kernel))
theorem wd_1438 : (.instanceMethod ⟨"TypesAtPrimeModel", "laysHead", "(II)V"⟩ : Cond) ∈ lw_tbl := List.mem_append_right _ (List.mem_of_getElem? (i := 1438) (by decide +kernel))
theorem ws_70 : (.selects "TypesAtPrimeModel" ⟨"TypesAtPrimeModel", "laysHead", "(II)V"⟩ ⟨"TypesAtPrimeModel", "laysHead", "(II)V"⟩ : Cond) ∈ lw_tbl := List.mem_append_left _ (List.mem_of_getElem? (i := 70) (by decide +kernel))
def y_X11_head : MethodName := ⟨"TypesAtPrimeModel", "head", "(I)I"⟩
abbrev i_X11_head : tp_I := (prog_13_method_43_code, "TypesAtPrimeModel", (some .int), 8, "head")
abbrev o_X11_head : Int × tp_M → tp_O := fun r => (some (.inl r.1), tp_NC, tp_st r.2)
theorem d_X11_head_0 : decode prog_13_method_43_code 0 = .ok (.aload_n 0, 1) := by decide +kernel
theorem d_X11_head_1 : decode prog_13_method_43_code 1 = .ok (.getfield 125, 3) := by decide +kernel
theorem d_X11_head_4 : decode prog_13_method_43_code 4 = .ok (.aload_n 0, 1) := by decide +kernel
theorem d_X11_head_5 : decode prog_13_method_43_code 5 = .ok (.getfield 300, 3) := by decide +kernel
theorem d_X11_head_8 : decode prog_13_method_43_code 8 = .ok (.iaload, 1) := by decide +kernel
theorem d_X11_head_9 : decode prog_13_method_43_code 9 = .ok (.istore_n 2, 1) := by decide +kernel
theorem d_X11_head_10 : decode prog_13_method_43_code 10 = .ok (.aload_n 0, 1) := by decide +kernel
theorem d_X11_head_11 : decode prog_13_method_43_code 11 = .ok (.getfield 300, 3) := by decide +kernel
theorem d_X11_head_14 : decode prog_13_method_43_code 14 = .ok (.iconst 1, 1) := by decide +kernel
theorem d_X11_head_15 : decode prog_13_method_43_code 15 = .ok (.isub, 1) := by decide +kernel
theorem d_X11_head_16 : decode prog_13_method_43_code 16 = .ok (.istore_n 3, 1) := by decide +kernel
theorem d_X11_head_17 : decode prog_13_method_43_code 17 = .ok (.iload_n 3, 1) := by decide +kernel
theorem d_X11_head_18 : decode prog_13_method_43_code 18 = .ok (.iconst 1, 1) := by decide +kernel
theorem d_X11_head_19 : decode prog_13_method_43_code 19 = .ok (.if_icmp .lt 65, 3) := by decide +kernel
theorem d_X11_head_22 : decode prog_13_method_43_code 22 = .ok (.iconst 0, 1) := by decide +kernel
theorem d_X11_head_23 : decode prog_13_method_43_code 23 = .ok (.istore 4, 2) := by decide +kernel
theorem d_X11_head_25 : decode prog_13_method_43_code 25 = .ok (.iload 4, 2) := by decide +kernel
theorem d_X11_head_27 : decode prog_13_method_43_code 27 = .ok (.iload_n 2, 1) := by decide +kernel
theorem d_X11_head_28 : decode prog_13_method_43_code 28 = .ok (.if_icmp .ge 50, 3) := by decide +kernel
theorem d_X11_head_31 : decode prog_13_method_43_code 31 = .ok (.aload_n 0, 1) := by decide +kernel
theorem d_X11_head_32 : decode prog_13_method_43_code 32 = .ok (.iload_n 1, 1) := by decide +kernel
theorem d_X11_head_33 : decode prog_13_method_43_code 33 = .ok (.iload 4, 2) := by decide +kernel
theorem d_X11_head_35 : decode prog_13_method_43_code 35 = .ok (.iadd, 1) := by decide +kernel
theorem d_X11_head_36 : decode prog_13_method_43_code 36 = .ok (.aload_n 0, 1) := by decide +kernel
theorem d_X11_head_37 : decode prog_13_method_43_code 37 = .ok (.getfield 125, 3) := by decide +kernel
theorem d_X11_head_40 : decode prog_13_method_43_code 40 = .ok (.iload_n 3, 1) := by decide +kernel
theorem d_X11_head_41 : decode prog_13_method_43_code 41 = .ok (.iconst 1, 1) := by decide +kernel
theorem d_X11_head_42 : decode prog_13_method_43_code 42 = .ok (.iadd, 1) := by decide +kernel
theorem d_X11_head_43 : decode prog_13_method_43_code 43 = .ok (.iaload, 1) := by decide +kernel
theorem d_X11_head_44 : decode prog_13_method_43_code 44 = .ok (.bipush 9, 2) := by decide +kernel
theorem d_X11_head_46 : decode prog_13_method_43_code 46 = .ok (.aload_n 0, 1) := by decide +kernel
theorem d_X11_head_47 : decode prog_13_method_43_code 47 = .ok (.getfield 131, 3) := by decide +kernel
theorem d_X11_head_50 : decode prog_13_method_43_code 50 = .ok (.iload_n 3, 1) := by decide +kernel
theorem d_X11_head_51 : decode prog_13_method_43_code 51 = .ok (.iaload, 1) := by decide +kernel
theorem d_X11_head_52 : decode prog_13_method_43_code 52 = .ok (.imul, 1) := by decide +kernel
theorem d_X11_head_53 : decode prog_13_method_43_code 53 = .ok (.aload_n 0, 1) := by decide +kernel
theorem d_X11_head_54 : decode prog_13_method_43_code 54 = .ok (.getfield 125, 3) := by decide +kernel
theorem d_X11_head_57 : decode prog_13_method_43_code 57 = .ok (.iload_n 3, 1) := by decide +kernel
theorem d_X11_head_58 : decode prog_13_method_43_code 58 = .ok (.iaload, 1) := by decide +kernel
theorem d_X11_head_59 : decode prog_13_method_43_code 59 = .ok (.invokevirtual 261, 3) := by decide +kernel
theorem d_X11_head_62 : decode prog_13_method_43_code 62 = .ok (.iload 4, 2) := by decide +kernel
theorem d_X11_head_64 : decode prog_13_method_43_code 64 = .ok (.aload_n 0, 1) := by decide +kernel
theorem d_X11_head_65 : decode prog_13_method_43_code 65 = .ok (.getfield 125, 3) := by decide +kernel
theorem d_X11_head_68 : decode prog_13_method_43_code 68 = .ok (.iload_n 3, 1) := by decide +kernel
theorem d_X11_head_69 : decode prog_13_method_43_code 69 = .ok (.iconst 1, 1) := by decide +kernel
theorem d_X11_head_70 : decode prog_13_method_43_code 70 = .ok (.iadd, 1) := by decide +kernel
theorem d_X11_head_71 : decode prog_13_method_43_code 71 = .ok (.iaload, 1) := by decide +kernel
theorem d_X11_head_72 : decode prog_13_method_43_code 72 = .ok (.iadd, 1) := by decide +kernel
theorem d_X11_head_73 : decode prog_13_method_43_code 73 = .ok (.istore 4, 2) := by decide +kernel
theorem d_X11_head_75 : decode prog_13_method_43_code 75 = .ok (.goto (-50), 3) := by decide +kernel
theorem d_X11_head_78 : decode prog_13_method_43_code 78 = .ok (.iinc 3 (-1), 3) := by decide +kernel
theorem d_X11_head_81 : decode prog_13_method_43_code 81 = .ok (.goto (-64), 3) := by decide +kernel
theorem d_X11_head_84 : decode prog_13_method_43_code 84 = .ok (.iconst (-1), 1) := by decide +kernel
theorem d_X11_head_85 : decode prog_13_method_43_code 85 = .ok (.istore_n 3, 1) := by decide +kernel
theorem d_X11_head_86 : decode prog_13_method_43_code 86 = .ok (.iconst (-1), 1) := by decide +kernel
theorem d_X11_head_87 : decode prog_13_method_43_code 87 = .ok (.istore 4, 2) := by decide +kernel
theorem d_X11_head_89 : decode prog_13_method_43_code 89 = .ok (.iconst 0, 1) := by decide +kernel
theorem d_X11_head_90 : decode prog_13_method_43_code 90 = .ok (.istore 5, 2) := by decide +kernel
theorem d_X11_head_92 : decode prog_13_method_43_code 92 = .ok (.iload 5, 2) := by decide +kernel
theorem d_X11_head_94 : decode prog_13_method_43_code 94 = .ok (.iload_n 2, 1) := by decide +kernel
theorem d_X11_head_95 : decode prog_13_method_43_code 95 = .ok (.if_icmp .ge 137, 3) := by decide +kernel
theorem d_X11_head_98 : decode prog_13_method_43_code 98 = .ok (.aload_n 0, 1) := by decide +kernel
theorem d_X11_head_99 : decode prog_13_method_43_code 99 = .ok (.getfield 20, 3) := by decide +kernel
theorem d_X11_head_102 : decode prog_13_method_43_code 102 = .ok (.iload_n 1, 1) := by decide +kernel
theorem d_X11_head_103 : decode prog_13_method_43_code 103 = .ok (.iload 5, 2) := by decide +kernel
theorem d_X11_head_105 : decode prog_13_method_43_code 105 = .ok (.iadd, 1) := by decide +kernel
theorem d_X11_head_106 : decode prog_13_method_43_code 106 = .ok (.laload, 1) := by decide +kernel
theorem d_X11_head_107 : decode prog_13_method_43_code 107 = .ok (.lconst 0, 1) := by decide +kernel
theorem d_X11_head_108 : decode prog_13_method_43_code 108 = .ok (.lcmp, 1) := by decide +kernel
theorem d_X11_head_109 : decode prog_13_method_43_code 109 = .ok (.ifCond .eq 117, 3) := by decide +kernel
theorem d_X11_head_112 : decode prog_13_method_43_code 112 = .ok (.iload_n 2, 1) := by decide +kernel
theorem d_X11_head_113 : decode prog_13_method_43_code 113 = .ok (.aload_n 0, 1) := by decide +kernel
theorem d_X11_head_114 : decode prog_13_method_43_code 114 = .ok (.aload_n 0, 1) := by decide +kernel
theorem d_X11_head_115 : decode prog_13_method_43_code 115 = .ok (.getfield 20, 3) := by decide +kernel
theorem d_X11_head_118 : decode prog_13_method_43_code 118 = .ok (.iload_n 1, 1) := by decide +kernel
theorem d_X11_head_119 : decode prog_13_method_43_code 119 = .ok (.iload 5, 2) := by decide +kernel
theorem d_X11_head_121 : decode prog_13_method_43_code 121 = .ok (.iadd, 1) := by decide +kernel
theorem d_X11_head_122 : decode prog_13_method_43_code 122 = .ok (.laload, 1) := by decide +kernel
theorem d_X11_head_123 : decode prog_13_method_43_code 123 = .ok (.invokevirtual 303, 3) := by decide +kernel
theorem d_X11_head_126 : decode prog_13_method_43_code 126 = .ok (.imul, 1) := by decide +kernel
theorem d_X11_head_127 : decode prog_13_method_43_code 127 = .ok (.istore 6, 2) := by decide +kernel
theorem d_X11_head_129 : decode prog_13_method_43_code 129 = .ok (.iconst 1, 1) := by decide +kernel
theorem d_X11_head_130 : decode prog_13_method_43_code 130 = .ok (.istore 7, 2) := by decide +kernel
theorem d_X11_head_132 : decode prog_13_method_43_code 132 = .ok (.iload 7, 2) := by decide +kernel
theorem d_X11_head_134 : decode prog_13_method_43_code 134 = .ok (.aload_n 0, 1) := by decide +kernel
theorem d_X11_head_135 : decode prog_13_method_43_code 135 = .ok (.getfield 300, 3) := by decide +kernel
theorem d_X11_head_138 : decode prog_13_method_43_code 138 = .ok (.if_icmp .ge 52, 3) := by decide +kernel
theorem d_X11_head_141 : decode prog_13_method_43_code 141 = .ok (.iload 6, 2) := by decide +kernel
theorem d_X11_head_143 : decode prog_13_method_43_code 143 = .ok (.iload 5, 2) := by decide +kernel
theorem d_X11_head_145 : decode prog_13_method_43_code 145 = .ok (.aload_n 0, 1) := by decide +kernel
theorem d_X11_head_146 : decode prog_13_method_43_code 146 = .ok (.getfield 125, 3) := by decide +kernel
theorem d_X11_head_149 : decode prog_13_method_43_code 149 = .ok (.iload 7, 2) := by decide +kernel
theorem d_X11_head_151 : decode prog_13_method_43_code 151 = .ok (.iaload, 1) := by decide +kernel
theorem d_X11_head_152 : decode prog_13_method_43_code 152 = .ok (.idiv, 1) := by decide +kernel
theorem d_X11_head_153 : decode prog_13_method_43_code 153 = .ok (.aload_n 0, 1) := by decide +kernel
theorem d_X11_head_154 : decode prog_13_method_43_code 154 = .ok (.getfield 122, 3) := by decide +kernel
theorem d_X11_head_157 : decode prog_13_method_43_code 157 = .ok (.iload 7, 2) := by decide +kernel
theorem d_X11_head_159 : decode prog_13_method_43_code 159 = .ok (.iaload, 1) := by decide +kernel
theorem d_X11_head_160 : decode prog_13_method_43_code 160 = .ok (.irem, 1) := by decide +kernel
theorem d_X11_head_161 : decode prog_13_method_43_code 161 = .ok (.aload_n 0, 1) := by decide +kernel
theorem d_X11_head_162 : decode prog_13_method_43_code 162 = .ok (.getfield 128, 3) := by decide +kernel
theorem d_X11_head_165 : decode prog_13_method_43_code 165 = .ok (.iload 7, 2) := by decide +kernel
theorem d_X11_head_167 : decode prog_13_method_43_code 167 = .ok (.iaload, 1) := by decide +kernel
theorem d_X11_head_168 : decode prog_13_method_43_code 168 = .ok (.imul, 1) := by decide +kernel
theorem d_X11_head_169 : decode prog_13_method_43_code 169 = .ok (.iload_n 2, 1) := by decide +kernel
theorem d_X11_head_170 : decode prog_13_method_43_code 170 = .ok (.aload_n 0, 1) := by decide +kernel
theorem d_X11_head_171 : decode prog_13_method_43_code 171 = .ok (.getfield 125, 3) := by decide +kernel
theorem d_X11_head_174 : decode prog_13_method_43_code 174 = .ok (.iload 7, 2) := by decide +kernel
theorem d_X11_head_176 : decode prog_13_method_43_code 176 = .ok (.iconst 1, 1) := by decide +kernel
theorem d_X11_head_177 : decode prog_13_method_43_code 177 = .ok (.iadd, 1) := by decide +kernel
theorem d_X11_head_178 : decode prog_13_method_43_code 178 = .ok (.iaload, 1) := by decide +kernel
theorem d_X11_head_179 : decode prog_13_method_43_code 179 = .ok (.idiv, 1) := by decide +kernel
theorem d_X11_head_180 : decode prog_13_method_43_code 180 = .ok (.imul, 1) := by decide +kernel
theorem d_X11_head_181 : decode prog_13_method_43_code 181 = .ok (.iadd, 1) := by decide +kernel
theorem d_X11_head_182 : decode prog_13_method_43_code 182 = .ok (.istore 6, 2) := by decide +kernel
theorem d_X11_head_184 : decode prog_13_method_43_code 184 = .ok (.iinc 7 1, 3) := by decide +kernel
theorem d_X11_head_187 : decode prog_13_method_43_code 187 = .ok (.goto (-55), 3) := by decide +kernel
theorem d_X11_head_190 : decode prog_13_method_43_code 190 = .ok (.iload_n 3, 1) := by decide +kernel
theorem d_X11_head_191 : decode prog_13_method_43_code 191 = .ok (.ifCond .lt 9, 3) := by decide +kernel
theorem d_X11_head_194 : decode prog_13_method_43_code 194 = .ok (.iload 6, 2) := by decide +kernel
theorem d_X11_head_196 : decode prog_13_method_43_code 196 = .ok (.iload_n 3, 1) := by decide +kernel
theorem d_X11_head_197 : decode prog_13_method_43_code 197 = .ok (.if_icmp .ge 8, 3) := by decide +kernel
theorem d_X11_head_200 : decode prog_13_method_43_code 200 = .ok (.iload 5, 2) := by decide +kernel
theorem d_X11_head_202 : decode prog_13_method_43_code 202 = .ok (.goto 5, 3) := by decide +kernel
theorem d_X11_head_205 : decode prog_13_method_43_code 205 = .ok (.iload 4, 2) := by decide +kernel
theorem d_X11_head_207 : decode prog_13_method_43_code 207 = .ok (.istore 4, 2) := by decide +kernel
theorem d_X11_head_209 : decode prog_13_method_43_code 209 = .ok (.iload_n 3, 1) := by decide +kernel
theorem d_X11_head_210 : decode prog_13_method_43_code 210 = .ok (.ifCond .lt 9, 3) := by decide +kernel
theorem d_X11_head_213 : decode prog_13_method_43_code 213 = .ok (.iload 6, 2) := by decide +kernel
theorem d_X11_head_215 : decode prog_13_method_43_code 215 = .ok (.iload_n 3, 1) := by decide +kernel
theorem d_X11_head_216 : decode prog_13_method_43_code 216 = .ok (.if_icmp .ge 8, 3) := by decide +kernel
theorem d_X11_head_219 : decode prog_13_method_43_code 219 = .ok (.iload 6, 2) := by decide +kernel
theorem d_X11_head_221 : decode prog_13_method_43_code 221 = .ok (.goto 4, 3) := by decide +kernel
theorem d_X11_head_224 : decode prog_13_method_43_code 224 = .ok (.iload_n 3, 1) := by decide +kernel
theorem d_X11_head_225 : decode prog_13_method_43_code 225 = .ok (.istore_n 3, 1) := by decide +kernel
theorem d_X11_head_226 : decode prog_13_method_43_code 226 = .ok (.iinc 5 1, 3) := by decide +kernel
theorem d_X11_head_229 : decode prog_13_method_43_code 229 = .ok (.goto (-137), 3) := by decide +kernel
theorem d_X11_head_232 : decode prog_13_method_43_code 232 = .ok (.aload_n 0, 1) := by decide +kernel
theorem d_X11_head_233 : decode prog_13_method_43_code 233 = .ok (.iload_n 1, 1) := by decide +kernel
theorem d_X11_head_234 : decode prog_13_method_43_code 234 = .ok (.iload 4, 2) := by decide +kernel
theorem d_X11_head_236 : decode prog_13_method_43_code 236 = .ok (.invokevirtual 306, 3) := by decide +kernel
theorem d_X11_head_239 : decode prog_13_method_43_code 239 = .ok (.iload_n 3, 1) := by decide +kernel
theorem d_X11_head_240 : decode prog_13_method_43_code 240 = .ok (.ireturn, 1) := by decide +kernel
def f_X11_head_226 (rec_92 : Int → Int → Int → Option (Int × tp_M)) (x1 : Int) (x2 : Int) (x3 : Int) (x4 : Int) (x5 : Int) (M0 : tp_M) : Option (Int × tp_M) :=
  tp_lt (tp_w (x5 + 1)) fun y8 =>
  rec_92 x3 x4 y8
set_option maxHeartbeats 4000000 in
set_option maxRecDepth 100000 in
theorem T_X11_head_226 (G : tp_G) (rec_92 : Int → Int → Int → Option (Int × tp_M)) (x1 : Int) (x2 : Int) (x3 : Int) (x4 : Int) (x5 : Int) (M0 : tp_M) (hrec_92 : ∀ (x3' x4' x5' : Int), tp_J i_X11_head (tp_rm 2) G 0 0 o_X11_head tp_NC (tp_st M0) 0 0 [some (.inr (.inr 483)), some (.inl x1), some (.inl x2), some (.inl (x3')), some (.inl (x4')), some (.inl (x5')), none, none] 92 [] (rec_92 x3' x4' x5')) : tp_J i_X11_head (tp_rm 2) G 0 0 o_X11_head tp_NC (tp_st M0) 0 0 [some (.inr (.inr 483)), some (.inl x1), some (.inl x2), some (.inl x3), some (.inl x4), some (.inl x5), none, none] 226 [] (f_X11_head_226 rec_92 x1 x2 x3 x4 x5 M0) := by
  unfold f_X11_head_226
  refine j_iincN (lv' := fun y8 => [some (.inr (.inr 483)), some (.inl x1), some (.inl x2), some (.inl x3), some (.inl x4), some (.inl y8), none, none]) d_X11_head_226 rfl (Nat.le_of_ble_eq_true rfl) (fun _ => rfl) (fun y8 hy8 => ?_)
  refine j_goto (tgt := 92) d_X11_head_229 (by decide) ?_
  exact j_wk [true, true, true, true, true, true, false, false] rfl rfl (hrec_92 x3 x4 y8)
def f_X11_head_225 (rec_92 : Int → Int → Int → Option (Int × tp_M)) (x1 : Int) (x2 : Int) (x4 : Int) (x5 : Int) (s0 : Int) (M0 : tp_M) : Option (Int × tp_M) :=
  f_X11_head_226 rec_92 x1 x2 s0 x4 x5 M0
set_option maxHeartbeats 4000000 in
set_option maxRecDepth 100000 in
theorem T_X11_head_225 (G : tp_G) (rec_92 : Int → Int → Int → Option (Int × tp_M)) (x1 : Int) (x2 : Int) (x4 : Int) (x5 : Int) (s0 : Int) (M0 : tp_M) (hrec_92 : ∀ (x3' x4' x5' : Int), tp_J i_X11_head (tp_rm 2) G 0 0 o_X11_head tp_NC (tp_st M0) 0 0 [some (.inr (.inr 483)), some (.inl x1), some (.inl x2), some (.inl (x3')), some (.inl (x4')), some (.inl (x5')), none, none] 92 [] (rec_92 x3' x4' x5')) : tp_J i_X11_head (tp_rm 2) G 0 0 o_X11_head tp_NC (tp_st M0) 0 0 [some (.inr (.inr 483)), some (.inl x1), some (.inl x2), none, some (.inl x4), some (.inl x5), none, none] 225 [.inl s0] (f_X11_head_225 rec_92 x1 x2 x4 x5 s0 M0) := by
  unfold f_X11_head_225
  refine j_istore_n (lv' := [some (.inr (.inr 483)), some (.inl x1), some (.inl x2), some (.inl s0), some (.inl x4), some (.inl x5), none, none]) rfl d_X11_head_225 (Nat.le_of_ble_eq_true rfl) rfl ?_
  exact j_wk [true, true, true, true, true, true, false, false] rfl rfl (T_X11_head_226 G rec_92 x1 x2 s0 x4 x5 M0 hrec_92)
def f_X11_head_219 (rec_92 : Int → Int → Int → Option (Int × tp_M)) (x1 : Int) (x2 : Int) (x4 : Int) (x5 : Int) (x6 : Int) (M0 : tp_M) : Option (Int × tp_M) :=
  f_X11_head_225 rec_92 x1 x2 x4 x5 x6 M0
set_option maxHeartbeats 4000000 in
set_option maxRecDepth 100000 in
theorem T_X11_head_219 (G : tp_G) (rec_92 : Int → Int → Int → Option (Int × tp_M)) (x1 : Int) (x2 : Int) (x4 : Int) (x5 : Int) (x6 : Int) (M0 : tp_M) (hrec_92 : ∀ (x3' x4' x5' : Int), tp_J i_X11_head (tp_rm 2) G 0 0 o_X11_head tp_NC (tp_st M0) 0 0 [some (.inr (.inr 483)), some (.inl x1), some (.inl x2), some (.inl (x3')), some (.inl (x4')), some (.inl (x5')), none, none] 92 [] (rec_92 x3' x4' x5')) : tp_J i_X11_head (tp_rm 2) G 0 0 o_X11_head tp_NC (tp_st M0) 0 0 [some (.inr (.inr 483)), some (.inl x1), some (.inl x2), none, some (.inl x4), some (.inl x5), some (.inl x6), none] 219 [] (f_X11_head_219 rec_92 x1 x2 x4 x5 x6 M0) := by
  unfold f_X11_head_219
  refine j_iload d_X11_head_219 rfl ?_
  refine j_goto (tgt := 225) d_X11_head_221 (by decide) ?_
  exact j_wk [true, true, true, false, true, true, false, false] rfl rfl (T_X11_head_225 G rec_92 x1 x2 x4 x5 x6 M0 hrec_92)
def f_X11_head_207 (rec_92 : Int → Int → Int → Option (Int × tp_M)) (x1 : Int) (x2 : Int) (x3 : Int) (x5 : Int) (x6 : Int) (s0 : Int) (M0 : tp_M) : Option (Int × tp_M) :=
  if x3 < 0 then
    f_X11_head_219 rec_92 x1 x2 s0 x5 x6 M0
  else
    if x3 ≤ x6 then
      f_X11_head_225 rec_92 x1 x2 s0 x5 x3 M0
    else
      f_X11_head_219 rec_92 x1 x2 s0 x5 x6 M0
set_option maxHeartbeats 4000000 in
set_option maxRecDepth 100000 in
theorem T_X11_head_207 (G : tp_G) (rec_92 : Int → Int → Int → Option (Int × tp_M)) (x1 : Int) (x2 : Int) (x3 : Int) (x5 : Int) (x6 : Int) (s0 : Int) (M0 : tp_M) (hrec_92 : ∀ (x3' x4' x5' : Int), tp_J i_X11_head (tp_rm 2) G 0 0 o_X11_head tp_NC (tp_st M0) 0 0 [some (.inr (.inr 483)), some (.inl x1), some (.inl x2), some (.inl (x3')), some (.inl (x4')), some (.inl (x5')), none, none] 92 [] (rec_92 x3' x4' x5')) : tp_J i_X11_head (tp_rm 2) G 0 0 o_X11_head tp_NC (tp_st M0) 0 0 [some (.inr (.inr 483)), some (.inl x1), some (.inl x2), some (.inl x3), none, some (.inl x5), some (.inl x6), none] 207 [.inl s0] (f_X11_head_207 rec_92 x1 x2 x3 x5 x6 s0 M0) := by
  unfold f_X11_head_207
  refine j_istore (lv' := [some (.inr (.inr 483)), some (.inl x1), some (.inl x2), some (.inl x3), some (.inl s0), some (.inl x5), some (.inl x6), none]) d_X11_head_207 (Nat.le_of_ble_eq_true rfl) rfl ?_
  refine j_iload_n rfl d_X11_head_209 rfl ?_
  refine j_if_lt (tgt := 219) d_X11_head_210 (by decide) (fun h14 => ?_) (fun h14 => ?_)
  · exact j_wk [true, true, true, false, true, true, true, false] rfl rfl (T_X11_head_219 G rec_92 x1 x2 s0 x5 x6 M0 hrec_92)
  · refine j_iload d_X11_head_213 rfl ?_
    refine j_iload_n rfl d_X11_head_215 rfl ?_
    refine j_icmp_ge (tgt := 224) d_X11_head_216 (by decide) (fun h15 => ?_) (fun h15 => ?_)
    · refine j_iload_n rfl d_X11_head_224 rfl ?_
      exact j_wk [true, true, true, false, true, true, false, false] rfl rfl (T_X11_head_225 G rec_92 x1 x2 s0 x5 x3 M0 hrec_92)
    · exact j_wk [true, true, true, false, true, true, true, false] rfl rfl (T_X11_head_219 G rec_92 x1 x2 s0 x5 x6 M0 hrec_92)
def f_X11_head_200 (rec_92 : Int → Int → Int → Option (Int × tp_M)) (x1 : Int) (x2 : Int) (x3 : Int) (x5 : Int) (x6 : Int) (M0 : tp_M) : Option (Int × tp_M) :=
  f_X11_head_207 rec_92 x1 x2 x3 x5 x6 x5 M0
set_option maxHeartbeats 4000000 in
set_option maxRecDepth 100000 in
theorem T_X11_head_200 (G : tp_G) (rec_92 : Int → Int → Int → Option (Int × tp_M)) (x1 : Int) (x2 : Int) (x3 : Int) (x5 : Int) (x6 : Int) (M0 : tp_M) (hrec_92 : ∀ (x3' x4' x5' : Int), tp_J i_X11_head (tp_rm 2) G 0 0 o_X11_head tp_NC (tp_st M0) 0 0 [some (.inr (.inr 483)), some (.inl x1), some (.inl x2), some (.inl (x3')), some (.inl (x4')), some (.inl (x5')), none, none] 92 [] (rec_92 x3' x4' x5')) : tp_J i_X11_head (tp_rm 2) G 0 0 o_X11_head tp_NC (tp_st M0) 0 0 [some (.inr (.inr 483)), some (.inl x1), some (.inl x2), some (.inl x3), none, some (.inl x5), some (.inl x6), none] 200 [] (f_X11_head_200 rec_92 x1 x2 x3 x5 x6 M0) := by
  unfold f_X11_head_200
  refine j_iload d_X11_head_200 rfl ?_
  refine j_goto (tgt := 207) d_X11_head_202 (by decide) ?_
  exact j_wk [true, true, true, true, false, true, true, false] rfl rfl (T_X11_head_207 G rec_92 x1 x2 x3 x5 x6 x5 M0 hrec_92)
def f_X11_head_132B (rec_92 : Int → Int → Int → Option (Int × tp_M)) (x1 : Int) (x2 : Int) (x3 : Int) (x4 : Int) (x5 : Int) (M0 : tp_M) (rec_132 : Int → Int → Option (Int × tp_M)) (x6 : Int) (x7 : Int) : Option (Int × tp_M) :=
  if (M0 483 49) ≤ x7 then
    if x3 < 0 then
      f_X11_head_200 rec_92 x1 x2 x3 x5 x6 M0
    else
      if x3 ≤ x6 then
        f_X11_head_207 rec_92 x1 x2 x3 x5 x6 x4 M0
      else
        f_X11_head_200 rec_92 x1 x2 x3 x5 x6 M0
  else
    if 0 ≤ x7 ∧ x7 < 8 then
      if (M0 522 x7) = 0 then none else
        if 0 ≤ x7 ∧ x7 < 8 then
          if (M0 521 x7) = 0 then none else
            if 0 ≤ x7 ∧ x7 < 8 then
              if 0 ≤ (tp_w (x7 + 1)) ∧ (tp_w (x7 + 1)) < 8 then
                if (M0 522 (tp_w (x7 + 1))) = 0 then none else
                  tp_lt ((tp_w (x6 + (tp_w ((tp_w ((Int.tmod (tp_w (Int.tdiv x5 (M0 522 x7))) (M0 521 x7)) * (M0 523 x7))) * (tp_w (Int.tdiv x2 (M0 522 (tp_w (x7 + 1)))))))))) fun y17 =>
                  tp_lt (tp_w (x7 + 1)) fun y18 =>
                  rec_132 y17 y18 else none else none else none else none
set_option maxHeartbeats 4000000 in
set_option maxRecDepth 100000 in
theorem T_X11_head_132B (G : tp_G) (rec_92 : Int → Int → Int → Option (Int × tp_M)) (x1 : Int) (x2 : Int) (x3 : Int) (x4 : Int) (x5 : Int) (M0 : tp_M) (hrec_92 : ∀ (x3' x4' x5' : Int), tp_J i_X11_head (tp_rm 2) G 0 0 o_X11_head tp_NC (tp_st M0) 0 0 [some (.inr (.inr 483)), some (.inl x1), some (.inl x2), some (.inl (x3')), some (.inl (x4')), some (.inl (x5')), none, none] 92 [] (rec_92 x3' x4' x5')) (rec_132 : Int → Int → Option (Int × tp_M)) (hrec_132 : ∀ (x6' x7' : Int), tp_J i_X11_head (tp_rm 2) G 0 0 o_X11_head tp_NC (tp_st M0) 0 0 [some (.inr (.inr 483)), some (.inl x1), some (.inl x2), some (.inl x3), some (.inl x4), some (.inl x5), some (.inl (x6')), some (.inl (x7'))] 132 [] (rec_132 x6' x7')) (x6 : Int) (x7 : Int) : tp_J i_X11_head (tp_rm 2) G 0 0 o_X11_head tp_NC (tp_st M0) 0 0 [some (.inr (.inr 483)), some (.inl x1), some (.inl x2), some (.inl x3), some (.inl x4), some (.inl x5), some (.inl x6), some (.inl x7)] 132 [] (f_X11_head_132B rec_92 x1 x2 x3 x4 x5 M0 rec_132 x6 x7) := by
  unfold f_X11_head_132B
  refine j_iload d_X11_head_132 rfl ?_
  refine j_aload_n rfl d_X11_head_134 rfl ?_
  refine j_geti fl_Model_300 tg_483 d_X11_head_135 ?_
  refine j_icmp_ge (tgt := 190) d_X11_head_138 (by decide) (fun h12 => ?_) (fun h12 => ?_)
  · refine j_iload_n rfl d_X11_head_190 rfl ?_
    refine j_if_lt (tgt := 200) d_X11_head_191 (by decide) (fun h13 => ?_) (fun h13 => ?_)
    · exact j_wk [true, true, true, true, false, true, true, false] rfl rfl (T_X11_head_200 G rec_92 x1 x2 x3 x5 x6 M0 hrec_92)
    · refine j_iload d_X11_head_194 rfl ?_
      refine j_iload_n rfl d_X11_head_196 rfl ?_
      refine j_icmp_ge (tgt := 205) d_X11_head_197 (by decide) (fun h16 => ?_) (fun h16 => ?_)
      · refine j_iload d_X11_head_205 rfl ?_
        exact j_wk [true, true, true, true, false, true, true, false] rfl rfl (T_X11_head_207 G rec_92 x1 x2 x3 x5 x6 x4 M0 hrec_92)
      · exact j_wk [true, true, true, true, false, true, true, false] rfl rfl (T_X11_head_200 G rec_92 x1 x2 x3 x5 x6 M0 hrec_92)
  · refine j_iload d_X11_head_141 rfl ?_
    refine j_iload d_X11_head_143 rfl ?_
    refine j_aload_n rfl d_X11_head_145 rfl ?_
    refine j_getr fl_Model_125 tg_483 rv_483_51 d_X11_head_146 ?_
    refine j_iload d_X11_head_149 rfl ?_
    refine j_iald tg_522 al_522 d_X11_head_151 ?_
    refine j_idiv d_X11_head_152 ?_
    refine j_aload_n rfl d_X11_head_153 rfl ?_
    refine j_getr fl_Model_122 tg_483 rv_483_50 d_X11_head_154 ?_
    refine j_iload d_X11_head_157 rfl ?_
    refine j_iald tg_521 al_521 d_X11_head_159 ?_
    refine j_irem d_X11_head_160 ?_
    refine j_aload_n rfl d_X11_head_161 rfl ?_
    refine j_getr fl_Model_128 tg_483 rv_483_52 d_X11_head_162 ?_
    refine j_iload d_X11_head_165 rfl ?_
    refine j_iald tg_523 al_523 d_X11_head_167 ?_
    refine j_imul d_X11_head_168 ?_
    refine j_iload_n rfl d_X11_head_169 rfl ?_
    refine j_aload_n rfl d_X11_head_170 rfl ?_
    refine j_getr fl_Model_125 tg_483 rv_483_51 d_X11_head_171 ?_
    refine j_iload d_X11_head_174 rfl ?_
    refine j_iconst ⟨by decide, by decide⟩ d_X11_head_176 ?_
    refine j_iadd d_X11_head_177 ?_
    refine j_iald tg_522 al_522 d_X11_head_178 ?_
    refine j_idiv d_X11_head_179 ?_
    refine j_imul d_X11_head_180 ?_
    refine j_iadd d_X11_head_181 ?_
    refine j_nmI (fun y17 hy17 => ?_)
    refine j_istore (lv' := [some (.inr (.inr 483)), some (.inl x1), some (.inl x2), some (.inl x3), some (.inl x4), some (.inl x5), some (.inl y17), some (.inl x7)]) d_X11_head_182 (Nat.le_of_ble_eq_true rfl) rfl ?_
    refine j_iincN (lv' := fun y18 => [some (.inr (.inr 483)), some (.inl x1), some (.inl x2), some (.inl x3), some (.inl x4), some (.inl x5), some (.inl y17), some (.inl y18)]) d_X11_head_184 rfl (Nat.le_of_ble_eq_true rfl) (fun _ => rfl) (fun y18 hy18 => ?_)
    refine j_goto (tgt := 132) d_X11_head_187 (by decide) ?_
    exact j_wk [true, true, true, true, true, true, true, true] rfl rfl (hrec_132 y17 y18)
def f_X11_head_132 (rec_92 : Int → Int → Int → Option (Int × tp_M)) (x1 : Int) (x2 : Int) (x3 : Int) (x4 : Int) (x5 : Int) (x6 : Int) (x7 : Int) (M0 : tp_M) : Option (Int × tp_M) := tp_lp (σ := Int × Int) (fun rec_ u => f_X11_head_132B rec_92 x1 x2 x3 x4 x5 M0 (fun x6' x7' => rec_ (x6', x7')) u.1 u.2) tp_N (x6, x7)
set_option maxHeartbeats 4000000 in
set_option maxRecDepth 100000 in
theorem T_X11_head_132 (G : tp_G) (rec_92 : Int → Int → Int → Option (Int × tp_M)) (x1 : Int) (x2 : Int) (x3 : Int) (x4 : Int) (x5 : Int) (x6 : Int) (x7 : Int) (M0 : tp_M) (hrec_92 : ∀ (x3' x4' x5' : Int), tp_J i_X11_head (tp_rm 2) G 0 0 o_X11_head tp_NC (tp_st M0) 0 0 [some (.inr (.inr 483)), some (.inl x1), some (.inl x2), some (.inl (x3')), some (.inl (x4')), some (.inl (x5')), none, none] 92 [] (rec_92 x3' x4' x5')) : tp_J i_X11_head (tp_rm 2) G 0 0 o_X11_head tp_NC (tp_st M0) 0 0 [some (.inr (.inr 483)), some (.inl x1), some (.inl x2), some (.inl x3), some (.inl x4), some (.inl x5), some (.inl x6), some (.inl x7)] 132 [] (f_X11_head_132 rec_92 x1 x2 x3 x4 x5 x6 x7 M0) := by
  unfold f_X11_head_132
  exact j_lp (σ := Int × Int) (n' := fun _ => tp_NC) (g' := fun u => tp_st M0) (k' := fun _ => 0) (q' := fun _ => 0) (lv' := fun u => [some (.inr (.inr 483)), some (.inl x1), some (.inl x2), some (.inl x3), some (.inl x4), some (.inl x5), some (.inl u.1), some (.inl u.2)]) (fun rec_ hrec u => T_X11_head_132B G rec_92 x1 x2 x3 x4 x5 M0 hrec_92 (fun x6' x7' => rec_ (x6', x7')) (fun x6' x7' => hrec (x6', x7')) u.1 u.2) tp_N (x6, x7)
def f_X11_head_92B (x1 : Int) (x2 : Int) (M0 : tp_M) (rec_92 : Int → Int → Int → Option (Int × tp_M)) (x3 : Int) (x4 : Int) (x5 : Int) : Option (Int × tp_M) :=
  if x2 ≤ x5 then
    (f_X11_laysHead x1 x4 M0).bind fun r5 =>
    some (x3, r5)
  else
    if 0 ≤ (tp_w (x1 + x5)) ∧ (tp_w (x1 + x5)) < 24 then
      if (M0 487 (tp_w (x1 + x5))) = 0 then
        f_X11_head_226 rec_92 x1 x2 x3 x4 x5 M0
      else
        if 0 ≤ (tp_w (x1 + x5)) ∧ (tp_w (x1 + x5)) < 24 then
          (f_X11_powerIn (M0 487 (tp_w (x1 + x5))) M0).bind fun r9 =>
          tp_lt ((tp_w (x2 * r9))) fun y11 =>
          f_X11_head_132 rec_92 x1 x2 x3 x4 x5 y11 1 M0 else none else none
set_option maxHeartbeats 4000000 in
set_option maxRecDepth 100000 in
theorem T_X11_head_92B (G : tp_G) (x1 : Int) (x2 : Int) (M0 : tp_M) (rec_92 : Int → Int → Int → Option (Int × tp_M)) (hrec_92 : ∀ (x3' x4' x5' : Int), tp_J i_X11_head (tp_rm 2) G 0 0 o_X11_head tp_NC (tp_st M0) 0 0 [some (.inr (.inr 483)), some (.inl x1), some (.inl x2), some (.inl (x3')), some (.inl (x4')), some (.inl (x5')), none, none] 92 [] (rec_92 x3' x4' x5')) (x3 : Int) (x4 : Int) (x5 : Int) : tp_J i_X11_head (tp_rm 2) G 0 0 o_X11_head tp_NC (tp_st M0) 0 0 [some (.inr (.inr 483)), some (.inl x1), some (.inl x2), some (.inl x3), some (.inl x4), some (.inl x5), none, none] 92 [] (f_X11_head_92B x1 x2 M0 rec_92 x3 x4 x5) := by
  unfold f_X11_head_92B
  refine j_iload d_X11_head_92 rfl ?_
  refine j_iload_n rfl d_X11_head_94 rfl ?_
  refine j_icmp_ge (tgt := 232) d_X11_head_95 (by decide) (fun h4 => ?_) (fun h4 => ?_)
  · refine j_aload_n rfl d_X11_head_232 rfl ?_
    refine j_iload_n rfl d_X11_head_233 rfl ?_
    refine j_iload d_X11_head_234 rfl ?_
    refine j_bind (fun r5 h6 => ?_)
    refine j_callV (y := y_X11_laysHead) (I' := i_X11_laysHead) (avs := [.inl x1, .inl x4]) (c := 483) (st := []) (c_X11_laysHead G x1 x4 M0 r5 h6) cs_Model_306 wd_1436 wd_1438 ws_70 tg_483 rfl rfl rfl (Nat.le_of_ble_eq_true rfl) ⟨rfl, rfl⟩ ⟨by decide, by decide⟩ ⟨by decide, by decide⟩ d_X11_head_236 ?_
    refine j_iload_n rfl d_X11_head_239 rfl ?_
    exact j_iret d_X11_head_240 rfl rfl ⟨rfl, rfl⟩
  · refine j_aload_n rfl d_X11_head_98 rfl ?_
    refine j_getr fl_Model_20 tg_483 rv_483_8 d_X11_head_99 ?_
    refine j_iload_n rfl d_X11_head_102 rfl ?_
    refine j_iload d_X11_head_103 rfl ?_
    refine j_iadd d_X11_head_105 ?_
    refine j_lald tg_487 al_487 d_X11_head_106 ?_
    refine j_lconst (x := 0) ⟨by decide, by decide⟩ (by decide +kernel) d_X11_head_107 ?_
    refine j_lcmp_eq (tgt := 226) d_X11_head_108 rfl d_X11_head_109 (by decide) (fun h7 => ?_) (fun h7 => ?_)
    · exact j_wk [true, true, true, true, true, true, false, false] rfl rfl (T_X11_head_226 G rec_92 x1 x2 x3 x4 x5 M0 hrec_92)
    · refine j_iload_n rfl d_X11_head_112 rfl ?_
      refine j_aload_n rfl d_X11_head_113 rfl ?_
      refine j_aload_n rfl d_X11_head_114 rfl ?_
      refine j_getr fl_Model_20 tg_483 rv_483_8 d_X11_head_115 ?_
      refine j_iload_n rfl d_X11_head_118 rfl ?_
      refine j_iload d_X11_head_119 rfl ?_
      refine j_iadd d_X11_head_121 ?_
      refine j_lald tg_487 al_487 d_X11_head_122 ?_
      refine j_bind (fun r9 h10 => ?_)
      refine j_callV (y := y_X11_powerIn) (I' := i_X11_powerIn) (avs := [.inr (.inl (M0 487 (tp_w (x1 + x5))))]) (c := 483) (st := [.inl x2]) (c_X11_powerIn G (M0 487 (tp_w (x1 + x5))) M0 r9 h10) cs_Model_303 wd_1432 wd_1434 ws_69 tg_483 rfl rfl rfl (Nat.le_of_ble_eq_true rfl) ⟨rfl, rfl⟩ ⟨by decide, by decide⟩ ⟨by decide, by decide⟩ d_X11_head_123 ?_
      refine j_imul d_X11_head_126 ?_
      refine j_nmI (fun y11 hy11 => ?_)
      refine j_istore (lv' := [some (.inr (.inr 483)), some (.inl x1), some (.inl x2), some (.inl x3), some (.inl x4), some (.inl x5), some (.inl y11), none]) d_X11_head_127 (Nat.le_of_ble_eq_true rfl) rfl ?_
      refine j_iconst ⟨by decide, by decide⟩ d_X11_head_129 ?_
      refine j_istore (lv' := [some (.inr (.inr 483)), some (.inl x1), some (.inl x2), some (.inl x3), some (.inl x4), some (.inl x5), some (.inl y11), some (.inl 1)]) d_X11_head_130 (Nat.le_of_ble_eq_true rfl) rfl ?_
      exact j_wk [true, true, true, true, true, true, true, true] rfl rfl (T_X11_head_132 G rec_92 x1 x2 x3 x4 x5 y11 1 M0 hrec_92)
def f_X11_head_92 (x1 : Int) (x2 : Int) (x3 : Int) (x4 : Int) (x5 : Int) (M0 : tp_M) : Option (Int × tp_M) := tp_lp (σ := Int × Int × Int) (fun rec_ u => f_X11_head_92B x1 x2 M0 (fun x3' x4' x5' => rec_ (x3', x4', x5')) u.1 u.2.1 u.2.2) tp_N (x3, x4, x5)
set_option maxHeartbeats 4000000 in
set_option maxRecDepth 100000 in
theorem T_X11_head_92 (G : tp_G) (x1 : Int) (x2 : Int) (x3 : Int) (x4 : Int) (x5 : Int) (M0 : tp_M) : tp_J i_X11_head (tp_rm 2) G 0 0 o_X11_head tp_NC (tp_st M0) 0 0 [some (.inr (.inr 483)), some (.inl x1), some (.inl x2), some (.inl x3), some (.inl x4), some (.inl x5), none, none] 92 [] (f_X11_head_92 x1 x2 x3 x4 x5 M0) := by
  unfold f_X11_head_92
  exact j_lp (σ := Int × Int × Int) (n' := fun _ => tp_NC) (g' := fun u => tp_st M0) (k' := fun _ => 0) (q' := fun _ => 0) (lv' := fun u => [some (.inr (.inr 483)), some (.inl x1), some (.inl x2), some (.inl u.1), some (.inl u.2.1), some (.inl u.2.2), none, none]) (fun rec_ hrec u => T_X11_head_92B G x1 x2 M0 (fun x3' x4' x5' => rec_ (x3', x4', x5')) (fun x3' x4' x5' => hrec (x3', x4', x5')) u.1 u.2.1 u.2.2) tp_N (x3, x4, x5)
def f_X11_head_25B (rec_17 : Int → tp_M → Option (Int × tp_M)) (x1 : Int) (x2 : Int) (x3 : Int) (rec_25 : Int → tp_M → Option (Int × tp_M)) (x4 : Int) (M0 : tp_M) : Option (Int × tp_M) :=
  if x2 ≤ x4 then
    tp_lt (tp_w (x3 + (-1))) fun y20 =>
    rec_17 y20 M0
  else
    if 0 ≤ (tp_w (x3 + 1)) ∧ (tp_w (x3 + 1)) < 8 then
      if 0 ≤ x3 ∧ x3 < 8 then
        if 0 ≤ x3 ∧ x3 < 8 then
          (f_X11_splits (tp_w (x1 + x4)) (M0 522 (tp_w (x3 + 1))) (tp_w (9 * (M0 524 x3))) (M0 522 x3) M0).bind fun r21 =>
          if 0 ≤ (tp_w (x3 + 1)) ∧ (tp_w (x3 + 1)) < 8 then
            tp_lt ((tp_w (x4 + (r21 522 (tp_w (x3 + 1)))))) fun y23 =>
            rec_25 y23 r21 else none else none else none else none
set_option maxHeartbeats 4000000 in
set_option maxRecDepth 100000 in
theorem T_X11_head_25B (G : tp_G) (rec_17 : Int → tp_M → Option (Int × tp_M)) (x1 : Int) (x2 : Int) (x3 : Int) (hrec_17 : ∀ (x3' : Int) (M' : tp_M), tp_J i_X11_head (tp_rm 2) G 0 0 o_X11_head tp_NC (tp_st M') 0 0 [some (.inr (.inr 483)), some (.inl x1), some (.inl x2), some (.inl (x3')), none, none, none, none] 17 [] (rec_17 x3' M')) (rec_25 : Int → tp_M → Option (Int × tp_M)) (hrec_25 : ∀ (x4' : Int) (M' : tp_M), tp_J i_X11_head (tp_rm 2) G 0 0 o_X11_head tp_NC (tp_st M') 0 0 [some (.inr (.inr 483)), some (.inl x1), some (.inl x2), some (.inl x3), some (.inl (x4')), none, none, none] 25 [] (rec_25 x4' M')) (x4 : Int) (M0 : tp_M) : tp_J i_X11_head (tp_rm 2) G 0 0 o_X11_head tp_NC (tp_st M0) 0 0 [some (.inr (.inr 483)), some (.inl x1), some (.inl x2), some (.inl x3), some (.inl x4), none, none, none] 25 [] (f_X11_head_25B rec_17 x1 x2 x3 rec_25 x4 M0) := by
  unfold f_X11_head_25B
  refine j_iload d_X11_head_25 rfl ?_
  refine j_iload_n rfl d_X11_head_27 rfl ?_
  refine j_icmp_ge (tgt := 78) d_X11_head_28 (by decide) (fun h19 => ?_) (fun h19 => ?_)
  · refine j_iincN (lv' := fun y20 => [some (.inr (.inr 483)), some (.inl x1), some (.inl x2), some (.inl y20), some (.inl x4), none, none, none]) d_X11_head_78 rfl (Nat.le_of_ble_eq_true rfl) (fun _ => rfl) (fun y20 hy20 => ?_)
    refine j_goto (tgt := 17) d_X11_head_81 (by decide) ?_
    exact j_wk [true, true, true, true, false, false, false, false] rfl rfl (hrec_17 y20 M0)
  · refine j_aload_n rfl d_X11_head_31 rfl ?_
    refine j_iload_n rfl d_X11_head_32 rfl ?_
    refine j_iload d_X11_head_33 rfl ?_
    refine j_iadd d_X11_head_35 ?_
    refine j_aload_n rfl d_X11_head_36 rfl ?_
    refine j_getr fl_Model_125 tg_483 rv_483_51 d_X11_head_37 ?_
    refine j_iload_n rfl d_X11_head_40 rfl ?_
    refine j_iconst ⟨by decide, by decide⟩ d_X11_head_41 ?_
    refine j_iadd d_X11_head_42 ?_
    refine j_iald tg_522 al_522 d_X11_head_43 ?_
    refine j_bipush ⟨by decide, by decide⟩ (by decide +kernel) d_X11_head_44 ?_
    refine j_aload_n rfl d_X11_head_46 rfl ?_
    refine j_getr fl_Model_131 tg_483 rv_483_53 d_X11_head_47 ?_
    refine j_iload_n rfl d_X11_head_50 rfl ?_
    refine j_iald tg_524 al_524 d_X11_head_51 ?_
    refine j_imul d_X11_head_52 ?_
    refine j_aload_n rfl d_X11_head_53 rfl ?_
    refine j_getr fl_Model_125 tg_483 rv_483_51 d_X11_head_54 ?_
    refine j_iload_n rfl d_X11_head_57 rfl ?_
    refine j_iald tg_522 al_522 d_X11_head_58 ?_
    refine j_bind (fun r21 h22 => ?_)
    refine j_callV (y := y_X11_splits) (I' := i_X11_splits) (avs := [.inl (tp_w (x1 + x4)), .inl (M0 522 (tp_w (x3 + 1))), .inl (tp_w (9 * (M0 524 x3))), .inl (M0 522 x3)]) (c := 483) (st := []) (c_X11_splits G (tp_w (x1 + x4)) (M0 522 (tp_w (x3 + 1))) (tp_w (9 * (M0 524 x3))) (M0 522 x3) M0 r21 h22) cs_Model_261 wd_1342 wd_1344 ws_49 tg_483 rfl rfl rfl (Nat.le_of_ble_eq_true rfl) ⟨rfl, rfl⟩ ⟨by decide, by decide⟩ ⟨by decide, by decide⟩ d_X11_head_59 ?_
    refine j_iload d_X11_head_62 rfl ?_
    refine j_aload_n rfl d_X11_head_64 rfl ?_
    refine j_getr fl_Model_125 tg_483 rv_483_51 d_X11_head_65 ?_
    refine j_iload_n rfl d_X11_head_68 rfl ?_
    refine j_iconst ⟨by decide, by decide⟩ d_X11_head_69 ?_
    refine j_iadd d_X11_head_70 ?_
    refine j_iald tg_522 al_522 d_X11_head_71 ?_
    refine j_iadd d_X11_head_72 ?_
    refine j_nmI (fun y23 hy23 => ?_)
    refine j_istore (lv' := [some (.inr (.inr 483)), some (.inl x1), some (.inl x2), some (.inl x3), some (.inl y23), none, none, none]) d_X11_head_73 (Nat.le_of_ble_eq_true rfl) rfl ?_
    refine j_goto (tgt := 25) d_X11_head_75 (by decide) ?_
    exact j_wk [true, true, true, true, true, false, false, false] rfl rfl (hrec_25 y23 r21)
def f_X11_head_25 (rec_17 : Int → tp_M → Option (Int × tp_M)) (x1 : Int) (x2 : Int) (x3 : Int) (x4 : Int) (M0 : tp_M) : Option (Int × tp_M) := tp_lp (σ := Int × tp_M) (fun rec_ u => f_X11_head_25B rec_17 x1 x2 x3 (fun x4' M0' => rec_ (x4', M0')) u.1 u.2) tp_N (x4, M0)
set_option maxHeartbeats 4000000 in
set_option maxRecDepth 100000 in
theorem T_X11_head_25 (G : tp_G) (rec_17 : Int → tp_M → Option (Int × tp_M)) (x1 : Int) (x2 : Int) (x3 : Int) (x4 : Int) (M0 : tp_M) (hrec_17 : ∀ (x3' : Int) (M' : tp_M), tp_J i_X11_head (tp_rm 2) G 0 0 o_X11_head tp_NC (tp_st M') 0 0 [some (.inr (.inr 483)), some (.inl x1), some (.inl x2), some (.inl (x3')), none, none, none, none] 17 [] (rec_17 x3' M')) : tp_J i_X11_head (tp_rm 2) G 0 0 o_X11_head tp_NC (tp_st M0) 0 0 [some (.inr (.inr 483)), some (.inl x1), some (.inl x2), some (.inl x3), some (.inl x4), none, none, none] 25 [] (f_X11_head_25 rec_17 x1 x2 x3 x4 M0) := by
  unfold f_X11_head_25
  exact j_lp (σ := Int × tp_M) (n' := fun _ => tp_NC) (g' := fun u => tp_st u.2) (k' := fun _ => 0) (q' := fun _ => 0) (lv' := fun u => [some (.inr (.inr 483)), some (.inl x1), some (.inl x2), some (.inl x3), some (.inl u.1), none, none, none]) (fun rec_ hrec u => T_X11_head_25B G rec_17 x1 x2 x3 hrec_17 (fun x4' M0' => rec_ (x4', M0')) (fun x4' M0' => hrec (x4', M0')) u.1 u.2) tp_N (x4, M0)
def f_X11_head_17B (x1 : Int) (x2 : Int) (rec_17 : Int → tp_M → Option (Int × tp_M)) (x3 : Int) (M0 : tp_M) : Option (Int × tp_M) :=
  if x3 < 1 then
    f_X11_head_92 x1 x2 (-1) (-1) 0 M0
  else
    f_X11_head_25 rec_17 x1 x2 x3 0 M0
set_option maxHeartbeats 4000000 in
set_option maxRecDepth 100000 in
theorem T_X11_head_17B (G : tp_G) (x1 : Int) (x2 : Int) (rec_17 : Int → tp_M → Option (Int × tp_M)) (hrec_17 : ∀ (x3' : Int) (M' : tp_M), tp_J i_X11_head (tp_rm 2) G 0 0 o_X11_head tp_NC (tp_st M') 0 0 [some (.inr (.inr 483)), some (.inl x1), some (.inl x2), some (.inl (x3')), none, none, none, none] 17 [] (rec_17 x3' M')) (x3 : Int) (M0 : tp_M) : tp_J i_X11_head (tp_rm 2) G 0 0 o_X11_head tp_NC (tp_st M0) 0 0 [some (.inr (.inr 483)), some (.inl x1), some (.inl x2), some (.inl x3), none, none, none, none] 17 [] (f_X11_head_17B x1 x2 rec_17 x3 M0) := by
  unfold f_X11_head_17B
  refine j_iload_n rfl d_X11_head_17 rfl ?_
  refine j_iconst ⟨by decide, by decide⟩ d_X11_head_18 ?_
  refine j_icmp_lt (tgt := 84) d_X11_head_19 (by decide) (fun h3 => ?_) (fun h3 => ?_)
  · refine j_iconst ⟨by decide, by decide⟩ d_X11_head_84 ?_
    refine j_istore_n (lv' := [some (.inr (.inr 483)), some (.inl x1), some (.inl x2), some (.inl (-1)), none, none, none, none]) rfl d_X11_head_85 (Nat.le_of_ble_eq_true rfl) rfl ?_
    refine j_iconst ⟨by decide, by decide⟩ d_X11_head_86 ?_
    refine j_istore (lv' := [some (.inr (.inr 483)), some (.inl x1), some (.inl x2), some (.inl (-1)), some (.inl (-1)), none, none, none]) d_X11_head_87 (Nat.le_of_ble_eq_true rfl) rfl ?_
    refine j_iconst ⟨by decide, by decide⟩ d_X11_head_89 ?_
    refine j_istore (lv' := [some (.inr (.inr 483)), some (.inl x1), some (.inl x2), some (.inl (-1)), some (.inl (-1)), some (.inl 0), none, none]) d_X11_head_90 (Nat.le_of_ble_eq_true rfl) rfl ?_
    exact j_wk [true, true, true, true, true, true, false, false] rfl rfl (T_X11_head_92 G x1 x2 (-1) (-1) 0 M0)
  · refine j_iconst ⟨by decide, by decide⟩ d_X11_head_22 ?_
    refine j_istore (lv' := [some (.inr (.inr 483)), some (.inl x1), some (.inl x2), some (.inl x3), some (.inl 0), none, none, none]) d_X11_head_23 (Nat.le_of_ble_eq_true rfl) rfl ?_
    exact j_wk [true, true, true, true, true, false, false, false] rfl rfl (T_X11_head_25 G rec_17 x1 x2 x3 0 M0 hrec_17)
def f_X11_head_17 (x1 : Int) (x2 : Int) (x3 : Int) (M0 : tp_M) : Option (Int × tp_M) := tp_lp (σ := Int × tp_M) (fun rec_ u => f_X11_head_17B x1 x2 (fun x3' M0' => rec_ (x3', M0')) u.1 u.2) tp_N (x3, M0)
set_option maxHeartbeats 4000000 in
set_option maxRecDepth 100000 in
theorem T_X11_head_17 (G : tp_G) (x1 : Int) (x2 : Int) (x3 : Int) (M0 : tp_M) : tp_J i_X11_head (tp_rm 2) G 0 0 o_X11_head tp_NC (tp_st M0) 0 0 [some (.inr (.inr 483)), some (.inl x1), some (.inl x2), some (.inl x3), none, none, none, none] 17 [] (f_X11_head_17 x1 x2 x3 M0) := by
  unfold f_X11_head_17
  exact j_lp (σ := Int × tp_M) (n' := fun _ => tp_NC) (g' := fun u => tp_st u.2) (k' := fun _ => 0) (q' := fun _ => 0) (lv' := fun u => [some (.inr (.inr 483)), some (.inl x1), some (.inl x2), some (.inl u.1), none, none, none, none]) (fun rec_ hrec u => T_X11_head_17B G x1 x2 (fun x3' M0' => rec_ (x3', M0')) (fun x3' M0' => hrec (x3', M0')) u.1 u.2) tp_N (x3, M0)
def f_X11_head (a0 : Int) (M0 : tp_M) : Option (Int × tp_M) :=
  if 0 ≤ (M0 483 49) ∧ (M0 483 49) < 8 then
    tp_lt ((M0 522 (M0 483 49))) fun y1 =>
    tp_lt ((tp_w ((M0 483 49) - 1))) fun y2 =>
    f_X11_head_17 a0 y1 y2 M0 else none
set_option maxHeartbeats 4000000 in
set_option maxRecDepth 100000 in
theorem T_X11_head (G : tp_G) (a0 : Int) (M0 : tp_M) : tp_J i_X11_head (tp_rm 2) G 0 0 o_X11_head tp_NC (tp_st M0) 0 0 [some (.inr (.inr 483)), some (.inl a0), none, none, none, none, none, none] 0 [] (f_X11_head a0 M0) := by
  unfold f_X11_head
  refine j_aload_n rfl d_X11_head_0 rfl ?_
  refine j_getr fl_Model_125 tg_483 rv_483_51 d_X11_head_1 ?_
  refine j_aload_n rfl d_X11_head_4 rfl ?_
  refine j_geti fl_Model_300 tg_483 d_X11_head_5 ?_
  refine j_iald tg_522 al_522 d_X11_head_8 ?_
  refine j_nmI (fun y1 hy1 => ?_)
  refine j_istore_n (lv' := [some (.inr (.inr 483)), some (.inl a0), some (.inl y1), none, none, none, none, none]) rfl d_X11_head_9 (Nat.le_of_ble_eq_true rfl) rfl ?_
  refine j_aload_n rfl d_X11_head_10 rfl ?_
  refine j_geti fl_Model_300 tg_483 d_X11_head_11 ?_
  refine j_iconst ⟨by decide, by decide⟩ d_X11_head_14 ?_
  refine j_isub d_X11_head_15 ?_
  refine j_nmI (fun y2 hy2 => ?_)
  refine j_istore_n (lv' := [some (.inr (.inr 483)), some (.inl a0), some (.inl y1), some (.inl y2), none, none, none, none]) rfl d_X11_head_16 (Nat.le_of_ble_eq_true rfl) rfl ?_
  exact j_wk [true, true, true, true, false, false, false, false] rfl rfl (T_X11_head_17 G a0 y1 y2 M0)
set_option maxHeartbeats 4000000 in
set_option maxRecDepth 100000 in
theorem c_X11_head (G : tp_G) (a0 : Int) (M0 : tp_M) (r : Int × tp_M) (h : f_X11_head a0 M0 = some r) (l : Launch) : Met l y_X11_head (tp_ws y_X11_head i_X11_head) (tp_rm 2) (tp_Pc G [.inr (.inr 483), .inl a0] tp_NC (tp_st M0)) (tp_Q G (o_X11_head r)) 0 0 (tp_A G) :=
  tp_met (I := i_X11_head) (y := y_X11_head) (by decide +kernel) (Eq.refl "TypesAtPrimeModel") (Eq.refl "head") (lv := [some (.inr (.inr 483)), some (.inl a0), none, none, none, none, none, none]) rfl (Nat.le_of_ble_eq_true rfl) (T_X11_head G a0 M0) h l
theorem wd_1062 : (.fieldLink "TypesAtPrimeModel" 77 "TypesAtPrimeModel" "madeRoot" "[I" : Cond) ∈ lw_tbl := List.mem_append_right _ (List.mem_of_getElem? (i := 1062) (by decide +kernel))
theorem fl_Model_77 : tp_F "TypesAtPrimeModel" 77 11 34 2 := ⟨_, _, _, rfl, by decide, rfl, wd_1062, rfl, by decide⟩
theorem tg_506 : tp_tg 506 = 21 := by decide +kernel
theorem al_506 : tp_al 506 = 40 := by decide +kernel
theorem rv_483_34 : tp_rv 483 34 = 506 := by decide +kernel
theorem wd_1063 : (.fieldLink "TypesAtPrimeModel" 80 "TypesAtPrimeModel" "madeMonomial" "[I" : Cond) ∈ lw_tbl := List.mem_append_right _ (List.mem_of_getElem? (i := 1063) (by decide +kernel))
theorem fl_Model_80 : tp_F "TypesAtPrimeModel" 80 11 35 2 := ⟨_, _, _, rfl, by decide, rfl, wd_1063, rfl, by decide⟩
theorem tg_507 : tp_tg 507 = 21 := by decide +kernel
theorem al_507 : tp_al 507 = 280 := by decide +kernel
theorem rv_483_35 : tp_rv 483 35 = 507 := by decide +kernel
def y_X11_takesDown : MethodName := ⟨"TypesAtPrimeModel", "takesDown", "()V"⟩
abbrev i_X11_takesDown : tp_I := (prog_13_method_45_code, "TypesAtPrimeModel", none, 3, "takesDown")
abbrev o_X11_takesDown : tp_M → tp_O := fun r => (none, tp_NC, tp_st r)
theorem d_X11_takesDown_0 : decode prog_13_method_45_code 0 = .ok (.aload_n 0, 1) := by decide +kernel
theorem d_X11_takesDown_1 : decode prog_13_method_45_code 1 = .ok (.getfield 300, 3) := by decide +kernel
theorem d_X11_takesDown_4 : decode prog_13_method_45_code 4 = .ok (.iconst 1, 1) := by decide +kernel
theorem d_X11_takesDown_5 : decode prog_13_method_45_code 5 = .ok (.isub, 1) := by decide +kernel
theorem d_X11_takesDown_6 : decode prog_13_method_45_code 6 = .ok (.istore_n 1, 1) := by decide +kernel
theorem d_X11_takesDown_7 : decode prog_13_method_45_code 7 = .ok (.iload_n 1, 1) := by decide +kernel
theorem d_X11_takesDown_8 : decode prog_13_method_45_code 8 = .ok (.iconst 1, 1) := by decide +kernel
theorem d_X11_takesDown_9 : decode prog_13_method_45_code 9 = .ok (.if_icmp .lt 106, 3) := by decide +kernel
theorem d_X11_takesDown_12 : decode prog_13_method_45_code 12 = .ok (.aload_n 0, 1) := by decide +kernel
theorem d_X11_takesDown_13 : decode prog_13_method_45_code 13 = .ok (.getfield 137, 3) := by decide +kernel
theorem d_X11_takesDown_16 : decode prog_13_method_45_code 16 = .ok (.iload_n 1, 1) := by decide +kernel
theorem d_X11_takesDown_17 : decode prog_13_method_45_code 17 = .ok (.iaload, 1) := by decide +kernel
theorem d_X11_takesDown_18 : decode prog_13_method_45_code 18 = .ok (.aload_n 0, 1) := by decide +kernel
theorem d_X11_takesDown_19 : decode prog_13_method_45_code 19 = .ok (.getfield 122, 3) := by decide +kernel
theorem d_X11_takesDown_22 : decode prog_13_method_45_code 22 = .ok (.iload_n 1, 1) := by decide +kernel
theorem d_X11_takesDown_23 : decode prog_13_method_45_code 23 = .ok (.iaload, 1) := by decide +kernel
theorem d_X11_takesDown_24 : decode prog_13_method_45_code 24 = .ok (.if_icmp .lt 85, 3) := by decide +kernel
theorem d_X11_takesDown_27 : decode prog_13_method_45_code 27 = .ok (.aload_n 0, 1) := by decide +kernel
theorem d_X11_takesDown_28 : decode prog_13_method_45_code 28 = .ok (.getfield 137, 3) := by decide +kernel
theorem d_X11_takesDown_31 : decode prog_13_method_45_code 31 = .ok (.iload_n 1, 1) := by decide +kernel
theorem d_X11_takesDown_32 : decode prog_13_method_45_code 32 = .ok (.dup2, 1) := by decide +kernel
theorem d_X11_takesDown_33 : decode prog_13_method_45_code 33 = .ok (.iaload, 1) := by decide +kernel
theorem d_X11_takesDown_34 : decode prog_13_method_45_code 34 = .ok (.aload_n 0, 1) := by decide +kernel
theorem d_X11_takesDown_35 : decode prog_13_method_45_code 35 = .ok (.getfield 122, 3) := by decide +kernel
theorem d_X11_takesDown_38 : decode prog_13_method_45_code 38 = .ok (.iload_n 1, 1) := by decide +kernel
theorem d_X11_takesDown_39 : decode prog_13_method_45_code 39 = .ok (.iaload, 1) := by decide +kernel
theorem d_X11_takesDown_40 : decode prog_13_method_45_code 40 = .ok (.isub, 1) := by decide +kernel
theorem d_X11_takesDown_41 : decode prog_13_method_45_code 41 = .ok (.iastore, 1) := by decide +kernel
theorem d_X11_takesDown_42 : decode prog_13_method_45_code 42 = .ok (.iconst 0, 1) := by decide +kernel
theorem d_X11_takesDown_43 : decode prog_13_method_45_code 43 = .ok (.istore_n 2, 1) := by decide +kernel
theorem d_X11_takesDown_44 : decode prog_13_method_45_code 44 = .ok (.iload_n 2, 1) := by decide +kernel
theorem d_X11_takesDown_45 : decode prog_13_method_45_code 45 = .ok (.bipush 7, 2) := by decide +kernel
theorem d_X11_takesDown_47 : decode prog_13_method_45_code 47 = .ok (.if_icmp .ge 34, 3) := by decide +kernel
theorem d_X11_takesDown_50 : decode prog_13_method_45_code 50 = .ok (.aload_n 0, 1) := by decide +kernel
theorem d_X11_takesDown_51 : decode prog_13_method_45_code 51 = .ok (.getfield 137, 3) := by decide +kernel
theorem d_X11_takesDown_54 : decode prog_13_method_45_code 54 = .ok (.iload_n 2, 1) := by decide +kernel
theorem d_X11_takesDown_55 : decode prog_13_method_45_code 55 = .ok (.dup2, 1) := by decide +kernel
theorem d_X11_takesDown_56 : decode prog_13_method_45_code 56 = .ok (.iaload, 1) := by decide +kernel
theorem d_X11_takesDown_57 : decode prog_13_method_45_code 57 = .ok (.aload_n 0, 1) := by decide +kernel
theorem d_X11_takesDown_58 : decode prog_13_method_45_code 58 = .ok (.getfield 80, 3) := by decide +kernel
theorem d_X11_takesDown_61 : decode prog_13_method_45_code 61 = .ok (.bipush 7, 2) := by decide +kernel
theorem d_X11_takesDown_63 : decode prog_13_method_45_code 63 = .ok (.aload_n 0, 1) := by decide +kernel
theorem d_X11_takesDown_64 : decode prog_13_method_45_code 64 = .ok (.getfield 134, 3) := by decide +kernel
theorem d_X11_takesDown_67 : decode prog_13_method_45_code 67 = .ok (.iload_n 1, 1) := by decide +kernel
theorem d_X11_takesDown_68 : decode prog_13_method_45_code 68 = .ok (.iaload, 1) := by decide +kernel
theorem d_X11_takesDown_69 : decode prog_13_method_45_code 69 = .ok (.imul, 1) := by decide +kernel
theorem d_X11_takesDown_70 : decode prog_13_method_45_code 70 = .ok (.iload_n 2, 1) := by decide +kernel
theorem d_X11_takesDown_71 : decode prog_13_method_45_code 71 = .ok (.iadd, 1) := by decide +kernel
theorem d_X11_takesDown_72 : decode prog_13_method_45_code 72 = .ok (.iaload, 1) := by decide +kernel
theorem d_X11_takesDown_73 : decode prog_13_method_45_code 73 = .ok (.iadd, 1) := by decide +kernel
theorem d_X11_takesDown_74 : decode prog_13_method_45_code 74 = .ok (.iastore, 1) := by decide +kernel
theorem d_X11_takesDown_75 : decode prog_13_method_45_code 75 = .ok (.iinc 2 1, 3) := by decide +kernel
theorem d_X11_takesDown_78 : decode prog_13_method_45_code 78 = .ok (.goto (-34), 3) := by decide +kernel
theorem d_X11_takesDown_81 : decode prog_13_method_45_code 81 = .ok (.aload_n 0, 1) := by decide +kernel
theorem d_X11_takesDown_82 : decode prog_13_method_45_code 82 = .ok (.aload_n 0, 1) := by decide +kernel
theorem d_X11_takesDown_83 : decode prog_13_method_45_code 83 = .ok (.getfield 309, 3) := by decide +kernel
theorem d_X11_takesDown_86 : decode prog_13_method_45_code 86 = .ok (.aload_n 0, 1) := by decide +kernel
theorem d_X11_takesDown_87 : decode prog_13_method_45_code 87 = .ok (.getfield 77, 3) := by decide +kernel
theorem d_X11_takesDown_90 : decode prog_13_method_45_code 90 = .ok (.aload_n 0, 1) := by decide +kernel
theorem d_X11_takesDown_91 : decode prog_13_method_45_code 91 = .ok (.getfield 134, 3) := by decide +kernel
theorem d_X11_takesDown_94 : decode prog_13_method_45_code 94 = .ok (.iload_n 1, 1) := by decide +kernel
theorem d_X11_takesDown_95 : decode prog_13_method_45_code 95 = .ok (.iaload, 1) := by decide +kernel
theorem d_X11_takesDown_96 : decode prog_13_method_45_code 96 = .ok (.iaload, 1) := by decide +kernel
theorem d_X11_takesDown_97 : decode prog_13_method_45_code 97 = .ok (.imul, 1) := by decide +kernel
theorem d_X11_takesDown_98 : decode prog_13_method_45_code 98 = .ok (.aload_n 0, 1) := by decide +kernel
theorem d_X11_takesDown_99 : decode prog_13_method_45_code 99 = .ok (.getfield 168, 3) := by decide +kernel
theorem d_X11_takesDown_102 : decode prog_13_method_45_code 102 = .ok (.irem, 1) := by decide +kernel
theorem d_X11_takesDown_103 : decode prog_13_method_45_code 103 = .ok (.putfield 309, 3) := by decide +kernel
theorem d_X11_takesDown_106 : decode prog_13_method_45_code 106 = .ok (.goto (-94), 3) := by decide +kernel
theorem d_X11_takesDown_109 : decode prog_13_method_45_code 109 = .ok (.iinc 1 (-1), 3) := by decide +kernel
theorem d_X11_takesDown_112 : decode prog_13_method_45_code 112 = .ok (.goto (-105), 3) := by decide +kernel
theorem d_X11_takesDown_115 : decode prog_13_method_45_code 115 = .ok (.return_, 1) := by decide +kernel
def f_X11_takesDown_44B (rec_7 : Int → tp_M → Option (tp_M)) (rec_12 : tp_M → Option (tp_M)) (x1 : Int) (rec_44 : Int → tp_M → Option (tp_M)) (x2 : Int) (M0 : tp_M) : Option (tp_M) :=
  if 7 ≤ x2 then
    if 0 ≤ x1 ∧ x1 < 8 then
      if 0 ≤ (M0 525 x1) ∧ (M0 525 x1) < 40 then
        if (M0 483 0) = 0 then none else
          tp_mp (tp_up M0 483 56 (Int.tmod (tp_w ((M0 483 56) * (M0 506 (M0 525 x1)))) (M0 483 0))) fun M7 =>
          rec_12 M7 else none else none
  else
    if 0 ≤ x2 ∧ x2 < 7 then
      if 0 ≤ x1 ∧ x1 < 8 then
        if 0 ≤ (tp_w ((tp_w (7 * (M0 525 x1))) + x2)) ∧ (tp_w ((tp_w (7 * (M0 525 x1))) + x2)) < 280 then
          if 0 ≤ x2 ∧ x2 < 7 then
            tp_mp (tp_up M0 526 x2 (tp_w ((M0 526 x2) + (M0 507 (tp_w ((tp_w (7 * (M0 525 x1))) + x2)))))) fun M8 =>
            tp_lt (tp_w (x2 + 1)) fun y9 =>
            rec_44 y9 M8 else none else none else none else none
set_option maxHeartbeats 4000000 in
set_option maxRecDepth 100000 in
theorem T_X11_takesDown_44B (G : tp_G) (rec_7 : Int → tp_M → Option (tp_M)) (rec_12 : tp_M → Option (tp_M)) (x1 : Int) (hrec_7 : ∀ (x1' : Int) (M' : tp_M), tp_J i_X11_takesDown (tp_rm 0) G 0 0 o_X11_takesDown tp_NC (tp_st M') 0 0 [some (.inr (.inr 483)), some (.inl (x1')), none] 7 [] (rec_7 x1' M')) (hrec_12 : ∀ (M' : tp_M), tp_J i_X11_takesDown (tp_rm 0) G 0 0 o_X11_takesDown tp_NC (tp_st M') 0 0 [some (.inr (.inr 483)), some (.inl x1), none] 12 [] (rec_12 M')) (rec_44 : Int → tp_M → Option (tp_M)) (hrec_44 : ∀ (x2' : Int) (M' : tp_M), tp_J i_X11_takesDown (tp_rm 0) G 0 0 o_X11_takesDown tp_NC (tp_st M') 0 0 [some (.inr (.inr 483)), some (.inl x1), some (.inl (x2'))] 44 [] (rec_44 x2' M')) (x2 : Int) (M0 : tp_M) : tp_J i_X11_takesDown (tp_rm 0) G 0 0 o_X11_takesDown tp_NC (tp_st M0) 0 0 [some (.inr (.inr 483)), some (.inl x1), some (.inl x2)] 44 [] (f_X11_takesDown_44B rec_7 rec_12 x1 rec_44 x2 M0) := by
  unfold f_X11_takesDown_44B
  refine j_iload_n rfl d_X11_takesDown_44 rfl ?_
  refine j_bipush ⟨by decide, by decide⟩ (by decide +kernel) d_X11_takesDown_45 ?_
  refine j_icmp_ge (tgt := 81) d_X11_takesDown_47 (by decide) (fun h6 => ?_) (fun h6 => ?_)
  · refine j_aload_n rfl d_X11_takesDown_81 rfl ?_
    refine j_aload_n rfl d_X11_takesDown_82 rfl ?_
    refine j_geti fl_Model_309 tg_483 d_X11_takesDown_83 ?_
    refine j_aload_n rfl d_X11_takesDown_86 rfl ?_
    refine j_getr fl_Model_77 tg_483 rv_483_34 d_X11_takesDown_87 ?_
    refine j_aload_n rfl d_X11_takesDown_90 rfl ?_
    refine j_getr fl_Model_134 tg_483 rv_483_54 d_X11_takesDown_91 ?_
    refine j_iload_n rfl d_X11_takesDown_94 rfl ?_
    refine j_iald tg_525 al_525 d_X11_takesDown_95 ?_
    refine j_iald tg_506 al_506 d_X11_takesDown_96 ?_
    refine j_imul d_X11_takesDown_97 ?_
    refine j_aload_n rfl d_X11_takesDown_98 rfl ?_
    refine j_geti fl_Model_168 tg_483 d_X11_takesDown_99 ?_
    refine j_irem d_X11_takesDown_102 ?_
    refine j_put (z := 0) (v := (Int.tmod (tp_w ((M0 483 56) * (M0 506 (M0 525 x1)))) (M0 483 0))) fl_Model_309 (by decide) tg_483 (pf_11_56 _) pt_11 d_X11_takesDown_103 (fun M7 hM7 => ?_)
    refine j_goto (tgt := 12) d_X11_takesDown_106 (by decide) ?_
    exact j_wk [true, true, false] rfl rfl (hrec_12 M7)
  · refine j_aload_n rfl d_X11_takesDown_50 rfl ?_
    refine j_getr fl_Model_137 tg_483 rv_483_55 d_X11_takesDown_51 ?_
    refine j_iload_n rfl d_X11_takesDown_54 rfl ?_
    refine j_dup2 d_X11_takesDown_55 (fun G => tp_cat G _) (fun G => tp_cat G _) ?_
    refine j_iald tg_526 al_526 d_X11_takesDown_56 ?_
    refine j_aload_n rfl d_X11_takesDown_57 rfl ?_
    refine j_getr fl_Model_80 tg_483 rv_483_35 d_X11_takesDown_58 ?_
    refine j_bipush ⟨by decide, by decide⟩ (by decide +kernel) d_X11_takesDown_61 ?_
    refine j_aload_n rfl d_X11_takesDown_63 rfl ?_
    refine j_getr fl_Model_134 tg_483 rv_483_54 d_X11_takesDown_64 ?_
    refine j_iload_n rfl d_X11_takesDown_67 rfl ?_
    refine j_iald tg_525 al_525 d_X11_takesDown_68 ?_
    refine j_imul d_X11_takesDown_69 ?_
    refine j_iload_n rfl d_X11_takesDown_70 rfl ?_
    refine j_iadd d_X11_takesDown_71 ?_
    refine j_iald tg_507 al_507 d_X11_takesDown_72 ?_
    refine j_iadd d_X11_takesDown_73 ?_
    refine j_iast tg_526 al_526 d_X11_takesDown_74 (fun M8 hM8 => ?_)
    refine j_iincN (lv' := fun y9 => [some (.inr (.inr 483)), some (.inl x1), some (.inl y9)]) d_X11_takesDown_75 rfl (Nat.le_of_ble_eq_true rfl) (fun _ => rfl) (fun y9 hy9 => ?_)
    refine j_goto (tgt := 44) d_X11_takesDown_78 (by decide) ?_
    exact j_wk [true, true, true] rfl rfl (hrec_44 y9 M8)
def f_X11_takesDown_44 (rec_7 : Int → tp_M → Option (tp_M)) (rec_12 : tp_M → Option (tp_M)) (x1 : Int) (x2 : Int) (M0 : tp_M) : Option (tp_M) := tp_lp (σ := Int × tp_M) (fun rec_ u => f_X11_takesDown_44B rec_7 rec_12 x1 (fun x2' M0' => rec_ (x2', M0')) u.1 u.2) tp_N (x2, M0)
set_option maxHeartbeats 4000000 in
set_option maxRecDepth 100000 in
theorem T_X11_takesDown_44 (G : tp_G) (rec_7 : Int → tp_M → Option (tp_M)) (rec_12 : tp_M → Option (tp_M)) (x1 : Int) (x2 : Int) (M0 : tp_M) (hrec_7 : ∀ (x1' : Int) (M' : tp_M), tp_J i_X11_takesDown (tp_rm 0) G 0 0 o_X11_takesDown tp_NC (tp_st M') 0 0 [some (.inr (.inr 483)), some (.inl (x1')), none] 7 [] (rec_7 x1' M')) (hrec_12 : ∀ (M' : tp_M), tp_J i_X11_takesDown (tp_rm 0) G 0 0 o_X11_takesDown tp_NC (tp_st M') 0 0 [some (.inr (.inr 483)), some (.inl x1), none] 12 [] (rec_12 M')) : tp_J i_X11_takesDown (tp_rm 0) G 0 0 o_X11_takesDown tp_NC (tp_st M0) 0 0 [some (.inr (.inr 483)), some (.inl x1), some (.inl x2)] 44 [] (f_X11_takesDown_44 rec_7 rec_12 x1 x2 M0) := by
  unfold f_X11_takesDown_44
  exact j_lp (σ := Int × tp_M) (n' := fun _ => tp_NC) (g' := fun u => tp_st u.2) (k' := fun _ => 0) (q' := fun _ => 0) (lv' := fun u => [some (.inr (.inr 483)), some (.inl x1), some (.inl u.1)]) (fun rec_ hrec u => T_X11_takesDown_44B G rec_7 rec_12 x1 hrec_7 hrec_12 (fun x2' M0' => rec_ (x2', M0')) (fun x2' M0' => hrec (x2', M0')) u.1 u.2) tp_N (x2, M0)
def f_X11_takesDown_12B (rec_7 : Int → tp_M → Option (tp_M)) (x1 : Int) (rec_12 : tp_M → Option (tp_M)) (M0 : tp_M) : Option (tp_M) :=
  if 0 ≤ x1 ∧ x1 < 7 then
    if 0 ≤ x1 ∧ x1 < 8 then
      if (M0 526 x1) < (M0 521 x1) then
        tp_lt (tp_w (x1 + (-1))) fun y4 =>
        rec_7 y4 M0
      else
        if 0 ≤ x1 ∧ x1 < 7 then
          if 0 ≤ x1 ∧ x1 < 8 then
            if 0 ≤ x1 ∧ x1 < 7 then
              tp_mp (tp_up M0 526 x1 (tp_w ((M0 526 x1) - (M0 521 x1)))) fun M5 =>
              f_X11_takesDown_44 rec_7 rec_12 x1 0 M5 else none else none else none else none else none
set_option maxHeartbeats 4000000 in
set_option maxRecDepth 100000 in
theorem T_X11_takesDown_12B (G : tp_G) (rec_7 : Int → tp_M → Option (tp_M)) (x1 : Int) (hrec_7 : ∀ (x1' : Int) (M' : tp_M), tp_J i_X11_takesDown (tp_rm 0) G 0 0 o_X11_takesDown tp_NC (tp_st M') 0 0 [some (.inr (.inr 483)), some (.inl (x1')), none] 7 [] (rec_7 x1' M')) (rec_12 : tp_M → Option (tp_M)) (hrec_12 : ∀ (M' : tp_M), tp_J i_X11_takesDown (tp_rm 0) G 0 0 o_X11_takesDown tp_NC (tp_st M') 0 0 [some (.inr (.inr 483)), some (.inl x1), none] 12 [] (rec_12 M')) (M0 : tp_M) : tp_J i_X11_takesDown (tp_rm 0) G 0 0 o_X11_takesDown tp_NC (tp_st M0) 0 0 [some (.inr (.inr 483)), some (.inl x1), none] 12 [] (f_X11_takesDown_12B rec_7 x1 rec_12 M0) := by
  unfold f_X11_takesDown_12B
  refine j_aload_n rfl d_X11_takesDown_12 rfl ?_
  refine j_getr fl_Model_137 tg_483 rv_483_55 d_X11_takesDown_13 ?_
  refine j_iload_n rfl d_X11_takesDown_16 rfl ?_
  refine j_iald tg_526 al_526 d_X11_takesDown_17 ?_
  refine j_aload_n rfl d_X11_takesDown_18 rfl ?_
  refine j_getr fl_Model_122 tg_483 rv_483_50 d_X11_takesDown_19 ?_
  refine j_iload_n rfl d_X11_takesDown_22 rfl ?_
  refine j_iald tg_521 al_521 d_X11_takesDown_23 ?_
  refine j_icmp_lt (tgt := 109) d_X11_takesDown_24 (by decide) (fun h3 => ?_) (fun h3 => ?_)
  · refine j_iincN (lv' := fun y4 => [some (.inr (.inr 483)), some (.inl y4), none]) d_X11_takesDown_109 rfl (Nat.le_of_ble_eq_true rfl) (fun _ => rfl) (fun y4 hy4 => ?_)
    refine j_goto (tgt := 7) d_X11_takesDown_112 (by decide) ?_
    exact j_wk [true, true, false] rfl rfl (hrec_7 y4 M0)
  · refine j_aload_n rfl d_X11_takesDown_27 rfl ?_
    refine j_getr fl_Model_137 tg_483 rv_483_55 d_X11_takesDown_28 ?_
    refine j_iload_n rfl d_X11_takesDown_31 rfl ?_
    refine j_dup2 d_X11_takesDown_32 (fun G => tp_cat G _) (fun G => tp_cat G _) ?_
    refine j_iald tg_526 al_526 d_X11_takesDown_33 ?_
    refine j_aload_n rfl d_X11_takesDown_34 rfl ?_
    refine j_getr fl_Model_122 tg_483 rv_483_50 d_X11_takesDown_35 ?_
    refine j_iload_n rfl d_X11_takesDown_38 rfl ?_
    refine j_iald tg_521 al_521 d_X11_takesDown_39 ?_
    refine j_isub d_X11_takesDown_40 ?_
    refine j_iast tg_526 al_526 d_X11_takesDown_41 (fun M5 hM5 => ?_)
    refine j_iconst ⟨by decide, by decide⟩ d_X11_takesDown_42 ?_
    refine j_istore_n (lv' := [some (.inr (.inr 483)), some (.inl x1), some (.inl 0)]) rfl d_X11_takesDown_43 (Nat.le_of_ble_eq_true rfl) rfl ?_
    exact j_wk [true, true, true] rfl rfl (T_X11_takesDown_44 G rec_7 rec_12 x1 0 M5 hrec_7 hrec_12)
def f_X11_takesDown_12 (rec_7 : Int → tp_M → Option (tp_M)) (x1 : Int) (M0 : tp_M) : Option (tp_M) := tp_lp (σ := tp_M) (fun rec_ u => f_X11_takesDown_12B rec_7 x1 (fun M0' => rec_ M0') u) tp_N M0
set_option maxHeartbeats 4000000 in
set_option maxRecDepth 100000 in
theorem T_X11_takesDown_12 (G : tp_G) (rec_7 : Int → tp_M → Option (tp_M)) (x1 : Int) (M0 : tp_M) (hrec_7 : ∀ (x1' : Int) (M' : tp_M), tp_J i_X11_takesDown (tp_rm 0) G 0 0 o_X11_takesDown tp_NC (tp_st M') 0 0 [some (.inr (.inr 483)), some (.inl (x1')), none] 7 [] (rec_7 x1' M')) : tp_J i_X11_takesDown (tp_rm 0) G 0 0 o_X11_takesDown tp_NC (tp_st M0) 0 0 [some (.inr (.inr 483)), some (.inl x1), none] 12 [] (f_X11_takesDown_12 rec_7 x1 M0) := by
  unfold f_X11_takesDown_12
  exact j_lp (σ := tp_M) (n' := fun _ => tp_NC) (g' := fun u => tp_st u) (k' := fun _ => 0) (q' := fun _ => 0) (lv' := fun u => [some (.inr (.inr 483)), some (.inl x1), none]) (fun rec_ hrec u => T_X11_takesDown_12B G rec_7 x1 hrec_7 (fun M0' => rec_ M0') (fun M0' => hrec M0') u) tp_N M0
def f_X11_takesDown_7B (rec_7 : Int → tp_M → Option (tp_M)) (x1 : Int) (M0 : tp_M) : Option (tp_M) :=
  if x1 < 1 then
    some M0
  else
    f_X11_takesDown_12 rec_7 x1 M0
set_option maxHeartbeats 4000000 in
set_option maxRecDepth 100000 in
theorem T_X11_takesDown_7B (G : tp_G) (rec_7 : Int → tp_M → Option (tp_M)) (hrec_7 : ∀ (x1' : Int) (M' : tp_M), tp_J i_X11_takesDown (tp_rm 0) G 0 0 o_X11_takesDown tp_NC (tp_st M') 0 0 [some (.inr (.inr 483)), some (.inl (x1')), none] 7 [] (rec_7 x1' M')) (x1 : Int) (M0 : tp_M) : tp_J i_X11_takesDown (tp_rm 0) G 0 0 o_X11_takesDown tp_NC (tp_st M0) 0 0 [some (.inr (.inr 483)), some (.inl x1), none] 7 [] (f_X11_takesDown_7B rec_7 x1 M0) := by
  unfold f_X11_takesDown_7B
  refine j_iload_n rfl d_X11_takesDown_7 rfl ?_
  refine j_iconst ⟨by decide, by decide⟩ d_X11_takesDown_8 ?_
  refine j_icmp_lt (tgt := 115) d_X11_takesDown_9 (by decide) (fun h2 => ?_) (fun h2 => ?_)
  · exact j_vret d_X11_takesDown_115 rfl rfl ⟨rfl, rfl⟩
  · exact j_wk [true, true, false] rfl rfl (T_X11_takesDown_12 G rec_7 x1 M0 hrec_7)
def f_X11_takesDown_7 (x1 : Int) (M0 : tp_M) : Option (tp_M) := tp_lp (σ := Int × tp_M) (fun rec_ u => f_X11_takesDown_7B (fun x1' M0' => rec_ (x1', M0')) u.1 u.2) tp_N (x1, M0)
set_option maxHeartbeats 4000000 in
set_option maxRecDepth 100000 in
theorem T_X11_takesDown_7 (G : tp_G) (x1 : Int) (M0 : tp_M) : tp_J i_X11_takesDown (tp_rm 0) G 0 0 o_X11_takesDown tp_NC (tp_st M0) 0 0 [some (.inr (.inr 483)), some (.inl x1), none] 7 [] (f_X11_takesDown_7 x1 M0) := by
  unfold f_X11_takesDown_7
  exact j_lp (σ := Int × tp_M) (n' := fun _ => tp_NC) (g' := fun u => tp_st u.2) (k' := fun _ => 0) (q' := fun _ => 0) (lv' := fun u => [some (.inr (.inr 483)), some (.inl u.1), none]) (fun rec_ hrec u => T_X11_takesDown_7B G (fun x1' M0' => rec_ (x1', M0')) (fun x1' M0' => hrec (x1', M0')) u.1 u.2) tp_N (x1, M0)
def f_X11_takesDown (M0 : tp_M) : Option (tp_M) :=
  tp_lt ((tp_w ((M0 483 49) - 1))) fun y1 =>
  f_X11_takesDown_7 y1 M0
set_option maxHeartbeats 4000000 in
set_option maxRecDepth 100000 in
theorem T_X11_takesDown (G : tp_G) (M0 : tp_M) : tp_J i_X11_takesDown (tp_rm 0) G 0 0 o_X11_takesDown tp_NC (tp_st M0) 0 0 [some (.inr (.inr 483)), none, none] 0 [] (f_X11_takesDown M0) := by
  unfold f_X11_takesDown
  refine j_aload_n rfl d_X11_takesDown_0 rfl ?_
  refine j_geti fl_Model_300 tg_483 d_X11_takesDown_1 ?_
  refine j_iconst ⟨by decide, by decide⟩ d_X11_takesDown_4 ?_
  refine j_isub d_X11_takesDown_5 ?_
  refine j_nmI (fun y1 hy1 => ?_)
  refine j_istore_n (lv' := [some (.inr (.inr 483)), some (.inl y1), none]) rfl d_X11_takesDown_6 (Nat.le_of_ble_eq_true rfl) rfl ?_
  exact j_wk [true, true, false] rfl rfl (T_X11_takesDown_7 G y1 M0)
set_option maxHeartbeats 4000000 in
set_option maxRecDepth 100000 in
theorem c_X11_takesDown (G : tp_G) (M0 : tp_M) (r : tp_M) (h : f_X11_takesDown M0 = some r) (l : Launch) : Met l y_X11_takesDown (tp_ws y_X11_takesDown i_X11_takesDown) (tp_rm 0) (tp_Pc G [.inr (.inr 483)] tp_NC (tp_st M0)) (tp_Q G (o_X11_takesDown r)) 0 0 (tp_A G) :=
  tp_met (I := i_X11_takesDown) (y := y_X11_takesDown) (by decide +kernel) (Eq.refl "TypesAtPrimeModel") (Eq.refl "takesDown") (lv := [some (.inr (.inr 483)), none, none]) rfl (Nat.le_of_ble_eq_true rfl) (T_X11_takesDown G M0) h l
