theorem wd_1478 : (.code ⟨"TypesAtPrimeModel", "takesFactor", "(III)V"⟩ prog_13_method_64_code 10 (none : Option Jvm.ClassFile.FieldType) : Cond) ∈ lw_tbl := List.mem_append_right _ (List.mem_of_getElem? (i := 1478) (by decide +kernel))
theorem cs_Model_396 : tp_CS "TypesAtPrimeModel" 396 y_X11_takesFactor i_X11_takesFactor 3 := ⟨wd_1478, wd_12, by decide, by decide, by decide +kernel⟩
theorem wd_1475 : (.methodLink "TypesAtPrimeModel" 396 ⟨"TypesAtPrimeModel", "takesFactor", "(III)V"⟩ : Cond) ∈ lw_tbl := List.mem_append_right _ (List.mem_of_getElem? (i := 1475) (by decide +kernel))
theorem wd_1477 : (.instanceMethod ⟨"TypesAtPrimeModel", "takesFactor", "(III)V"⟩ : Cond) ∈ lw_tbl := List.mem_append_right _ (List.mem_of_getElem? (i := 1477) (by decide +kernel))
theorem ws_79 : (.selects "TypesAtPrimeModel" ⟨"TypesAtPrimeModel", "takesFactor", "(III)V"⟩ ⟨"TypesAtPrimeModel", "takesFactor", "(III)V"⟩ : Cond) ∈ lw_tbl := List.mem_append_left _ (List.mem_of_getElem? (i := 79) (by decide +kernel))
theorem wd_1395 : (.code ⟨"TypesAtPrimeModel", "takesFirst", "(I)V"⟩ prog_13_method_63_code 6 (none : Option Jvm.ClassFile.FieldType) : Cond) ∈ lw_tbl := List.mem_append_right _ (List.mem_of_getElem? (i := 1395) (by decide +kernel))
theorem cs_Model_393 : tp_CS "TypesAtPrimeModel" 393 y_X11_takesFirst i_X11_takesFirst 1 := ⟨wd_1395, wd_12, by decide, by decide, by decide +kernel⟩
theorem wd_1392 : (.methodLink "TypesAtPrimeModel" 393 ⟨"TypesAtPrimeModel", "takesFirst", "(I)V"⟩ : Cond) ∈ lw_tbl := List.mem_append_right _ (List.mem_of_getElem? (i := 1392) (by decide +kernel))
theorem wd_1394 : (.instanceMethod ⟨"TypesAtPrimeModel", "takesFirst", "(I)V"⟩ : Cond) ∈ lw_tbl := List.mem_append_right _ (List.mem_of_getElem? (i := 1394) (by decide +kernel))
theorem ws_59 : (.selects "TypesAtPrimeModel" ⟨"TypesAtPrimeModel", "takesFirst", "(I)V"⟩ ⟨"TypesAtPrimeModel", "takesFirst", "(I)V"⟩ : Cond) ∈ lw_tbl := List.mem_append_left _ (List.mem_of_getElem? (i := 59) (by decide +kernel))
def y_X11_steps : MethodName := ⟨"TypesAtPrimeModel", "steps", "()V"⟩
abbrev i_X11_steps : tp_I := (prog_13_method_65_code, "TypesAtPrimeModel", none, 4, "steps")
abbrev o_X11_steps : tp_M → tp_O := fun r => (none, tp_NC, tp_st r)
theorem d_X11_steps_0 : decode prog_13_method_65_code 0 = .ok (.aload_n 0, 1) := by decide +kernel
theorem d_X11_steps_1 : decode prog_13_method_65_code 1 = .ok (.getfield 143, 3) := by decide +kernel
theorem d_X11_steps_4 : decode prog_13_method_65_code 4 = .ok (.aload_n 0, 1) := by decide +kernel
theorem d_X11_steps_5 : decode prog_13_method_65_code 5 = .ok (.getfield 378, 3) := by decide +kernel
theorem d_X11_steps_8 : decode prog_13_method_65_code 8 = .ok (.iaload, 1) := by decide +kernel
theorem d_X11_steps_9 : decode prog_13_method_65_code 9 = .ok (.istore_n 1, 1) := by decide +kernel
theorem d_X11_steps_10 : decode prog_13_method_65_code 10 = .ok (.aload_n 0, 1) := by decide +kernel
theorem d_X11_steps_11 : decode prog_13_method_65_code 11 = .ok (.getfield 378, 3) := by decide +kernel
theorem d_X11_steps_14 : decode prog_13_method_65_code 14 = .ok (.ifCond .le 32, 3) := by decide +kernel
theorem d_X11_steps_17 : decode prog_13_method_65_code 17 = .ok (.aload_n 0, 1) := by decide +kernel
theorem d_X11_steps_18 : decode prog_13_method_65_code 18 = .ok (.getfield 146, 3) := by decide +kernel
theorem d_X11_steps_21 : decode prog_13_method_65_code 21 = .ok (.aload_n 0, 1) := by decide +kernel
theorem d_X11_steps_22 : decode prog_13_method_65_code 22 = .ok (.getfield 378, 3) := by decide +kernel
theorem d_X11_steps_25 : decode prog_13_method_65_code 25 = .ok (.iaload, 1) := by decide +kernel
theorem d_X11_steps_26 : decode prog_13_method_65_code 26 = .ok (.aload_n 0, 1) := by decide +kernel
theorem d_X11_steps_27 : decode prog_13_method_65_code 27 = .ok (.getfield 59, 3) := by decide +kernel
theorem d_X11_steps_30 : decode prog_13_method_65_code 30 = .ok (.iload_n 1, 1) := by decide +kernel
theorem d_X11_steps_31 : decode prog_13_method_65_code 31 = .ok (.iaload, 1) := by decide +kernel
theorem d_X11_steps_32 : decode prog_13_method_65_code 32 = .ok (.if_icmp .ne 14, 3) := by decide +kernel
theorem d_X11_steps_35 : decode prog_13_method_65_code 35 = .ok (.aload_n 0, 1) := by decide +kernel
theorem d_X11_steps_36 : decode prog_13_method_65_code 36 = .ok (.dup, 1) := by decide +kernel
theorem d_X11_steps_37 : decode prog_13_method_65_code 37 = .ok (.getfield 378, 3) := by decide +kernel
theorem d_X11_steps_40 : decode prog_13_method_65_code 40 = .ok (.iconst 1, 1) := by decide +kernel
theorem d_X11_steps_41 : decode prog_13_method_65_code 41 = .ok (.isub, 1) := by decide +kernel
theorem d_X11_steps_42 : decode prog_13_method_65_code 42 = .ok (.putfield 378, 3) := by decide +kernel
theorem d_X11_steps_45 : decode prog_13_method_65_code 45 = .ok (.return_, 1) := by decide +kernel
theorem d_X11_steps_46 : decode prog_13_method_65_code 46 = .ok (.aload_n 0, 1) := by decide +kernel
theorem d_X11_steps_47 : decode prog_13_method_65_code 47 = .ok (.getfield 378, 3) := by decide +kernel
theorem d_X11_steps_50 : decode prog_13_method_65_code 50 = .ok (.ifCond .le 22, 3) := by decide +kernel
theorem d_X11_steps_53 : decode prog_13_method_65_code 53 = .ok (.aload_n 0, 1) := by decide +kernel
theorem d_X11_steps_54 : decode prog_13_method_65_code 54 = .ok (.getfield 56, 3) := by decide +kernel
theorem d_X11_steps_57 : decode prog_13_method_65_code 57 = .ok (.iload_n 1, 1) := by decide +kernel
theorem d_X11_steps_58 : decode prog_13_method_65_code 58 = .ok (.iaload, 1) := by decide +kernel
theorem d_X11_steps_59 : decode prog_13_method_65_code 59 = .ok (.aload_n 0, 1) := by decide +kernel
theorem d_X11_steps_60 : decode prog_13_method_65_code 60 = .ok (.getfield 146, 3) := by decide +kernel
theorem d_X11_steps_63 : decode prog_13_method_65_code 63 = .ok (.aload_n 0, 1) := by decide +kernel
theorem d_X11_steps_64 : decode prog_13_method_65_code 64 = .ok (.getfield 378, 3) := by decide +kernel
theorem d_X11_steps_67 : decode prog_13_method_65_code 67 = .ok (.iaload, 1) := by decide +kernel
theorem d_X11_steps_68 : decode prog_13_method_65_code 68 = .ok (.iadd, 1) := by decide +kernel
theorem d_X11_steps_69 : decode prog_13_method_65_code 69 = .ok (.goto 4, 3) := by decide +kernel
theorem d_X11_steps_72 : decode prog_13_method_65_code 72 = .ok (.iconst 0, 1) := by decide +kernel
theorem d_X11_steps_73 : decode prog_13_method_65_code 73 = .ok (.istore_n 2, 1) := by decide +kernel
theorem d_X11_steps_74 : decode prog_13_method_65_code 74 = .ok (.iconst 0, 1) := by decide +kernel
theorem d_X11_steps_75 : decode prog_13_method_65_code 75 = .ok (.istore_n 3, 1) := by decide +kernel
theorem d_X11_steps_76 : decode prog_13_method_65_code 76 = .ok (.iload_n 3, 1) := by decide +kernel
theorem d_X11_steps_77 : decode prog_13_method_65_code 77 = .ok (.bipush 9, 2) := by decide +kernel
theorem d_X11_steps_79 : decode prog_13_method_65_code 79 = .ok (.if_icmp .ge 46, 3) := by decide +kernel
theorem d_X11_steps_82 : decode prog_13_method_65_code 82 = .ok (.aload_n 0, 1) := by decide +kernel
theorem d_X11_steps_83 : decode prog_13_method_65_code 83 = .ok (.getfield 26, 3) := by decide +kernel
theorem d_X11_steps_86 : decode prog_13_method_65_code 86 = .ok (.iload_n 3, 1) := by decide +kernel
theorem d_X11_steps_87 : decode prog_13_method_65_code 87 = .ok (.aload_n 0, 1) := by decide +kernel
theorem d_X11_steps_88 : decode prog_13_method_65_code 88 = .ok (.getfield 378, 3) := by decide +kernel
theorem d_X11_steps_91 : decode prog_13_method_65_code 91 = .ok (.ifCond .le 17, 3) := by decide +kernel
theorem d_X11_steps_94 : decode prog_13_method_65_code 94 = .ok (.aload_n 0, 1) := by decide +kernel
theorem d_X11_steps_95 : decode prog_13_method_65_code 95 = .ok (.getfield 104, 3) := by decide +kernel
theorem d_X11_steps_98 : decode prog_13_method_65_code 98 = .ok (.bipush 9, 2) := by decide +kernel
theorem d_X11_steps_100 : decode prog_13_method_65_code 100 = .ok (.iload_n 2, 1) := by decide +kernel
theorem d_X11_steps_101 : decode prog_13_method_65_code 101 = .ok (.imul, 1) := by decide +kernel
theorem d_X11_steps_102 : decode prog_13_method_65_code 102 = .ok (.iload_n 3, 1) := by decide +kernel
theorem d_X11_steps_103 : decode prog_13_method_65_code 103 = .ok (.iadd, 1) := by decide +kernel
theorem d_X11_steps_104 : decode prog_13_method_65_code 104 = .ok (.iaload, 1) := by decide +kernel
theorem d_X11_steps_105 : decode prog_13_method_65_code 105 = .ok (.goto 13, 3) := by decide +kernel
theorem d_X11_steps_108 : decode prog_13_method_65_code 108 = .ok (.aload_n 0, 1) := by decide +kernel
theorem d_X11_steps_109 : decode prog_13_method_65_code 109 = .ok (.aload_n 0, 1) := by decide +kernel
theorem d_X11_steps_110 : decode prog_13_method_65_code 110 = .ok (.getfield 44, 3) := by decide +kernel
theorem d_X11_steps_113 : decode prog_13_method_65_code 113 = .ok (.iload_n 3, 1) := by decide +kernel
theorem d_X11_steps_114 : decode prog_13_method_65_code 114 = .ok (.laload, 1) := by decide +kernel
theorem d_X11_steps_115 : decode prog_13_method_65_code 115 = .ok (.invokevirtual 268, 3) := by decide +kernel
theorem d_X11_steps_118 : decode prog_13_method_65_code 118 = .ok (.iastore, 1) := by decide +kernel
theorem d_X11_steps_119 : decode prog_13_method_65_code 119 = .ok (.iinc 3 1, 3) := by decide +kernel
theorem d_X11_steps_122 : decode prog_13_method_65_code 122 = .ok (.goto (-46), 3) := by decide +kernel
theorem d_X11_steps_125 : decode prog_13_method_65_code 125 = .ok (.aload_n 0, 1) := by decide +kernel
theorem d_X11_steps_126 : decode prog_13_method_65_code 126 = .ok (.invokevirtual 297, 3) := by decide +kernel
theorem d_X11_steps_129 : decode prog_13_method_65_code 129 = .ok (.aload_n 0, 1) := by decide +kernel
theorem d_X11_steps_130 : decode prog_13_method_65_code 130 = .ok (.getfield 149, 3) := by decide +kernel
theorem d_X11_steps_133 : decode prog_13_method_65_code 133 = .ok (.aload_n 0, 1) := by decide +kernel
theorem d_X11_steps_134 : decode prog_13_method_65_code 134 = .ok (.getfield 378, 3) := by decide +kernel
theorem d_X11_steps_137 : decode prog_13_method_65_code 137 = .ok (.iaload, 1) := by decide +kernel
theorem d_X11_steps_138 : decode prog_13_method_65_code 138 = .ok (.istore_n 3, 1) := by decide +kernel
theorem d_X11_steps_139 : decode prog_13_method_65_code 139 = .ok (.iload_n 3, 1) := by decide +kernel
theorem d_X11_steps_140 : decode prog_13_method_65_code 140 = .ok (.aload_n 0, 1) := by decide +kernel
theorem d_X11_steps_141 : decode prog_13_method_65_code 141 = .ok (.getfield 272, 3) := by decide +kernel
theorem d_X11_steps_144 : decode prog_13_method_65_code 144 = .ok (.if_icmp .ne 48, 3) := by decide +kernel
theorem d_X11_steps_147 : decode prog_13_method_65_code 147 = .ok (.aload_n 0, 1) := by decide +kernel
theorem d_X11_steps_148 : decode prog_13_method_65_code 148 = .ok (.getfield 146, 3) := by decide +kernel
theorem d_X11_steps_151 : decode prog_13_method_65_code 151 = .ok (.aload_n 0, 1) := by decide +kernel
theorem d_X11_steps_152 : decode prog_13_method_65_code 152 = .ok (.getfield 378, 3) := by decide +kernel
theorem d_X11_steps_155 : decode prog_13_method_65_code 155 = .ok (.dup2, 1) := by decide +kernel
theorem d_X11_steps_156 : decode prog_13_method_65_code 156 = .ok (.iaload, 1) := by decide +kernel
theorem d_X11_steps_157 : decode prog_13_method_65_code 157 = .ok (.iconst 1, 1) := by decide +kernel
theorem d_X11_steps_158 : decode prog_13_method_65_code 158 = .ok (.iadd, 1) := by decide +kernel
theorem d_X11_steps_159 : decode prog_13_method_65_code 159 = .ok (.iastore, 1) := by decide +kernel
theorem d_X11_steps_160 : decode prog_13_method_65_code 160 = .ok (.aload_n 0, 1) := by decide +kernel
theorem d_X11_steps_161 : decode prog_13_method_65_code 161 = .ok (.getfield 149, 3) := by decide +kernel
theorem d_X11_steps_164 : decode prog_13_method_65_code 164 = .ok (.aload_n 0, 1) := by decide +kernel
theorem d_X11_steps_165 : decode prog_13_method_65_code 165 = .ok (.getfield 378, 3) := by decide +kernel
theorem d_X11_steps_168 : decode prog_13_method_65_code 168 = .ok (.iconst 0, 1) := by decide +kernel
theorem d_X11_steps_169 : decode prog_13_method_65_code 169 = .ok (.iastore, 1) := by decide +kernel
theorem d_X11_steps_170 : decode prog_13_method_65_code 170 = .ok (.aload_n 0, 1) := by decide +kernel
theorem d_X11_steps_171 : decode prog_13_method_65_code 171 = .ok (.dup, 1) := by decide +kernel
theorem d_X11_steps_172 : decode prog_13_method_65_code 172 = .ok (.getfield 378, 3) := by decide +kernel
theorem d_X11_steps_175 : decode prog_13_method_65_code 175 = .ok (.aload_n 0, 1) := by decide +kernel
theorem d_X11_steps_176 : decode prog_13_method_65_code 176 = .ok (.getfield 378, 3) := by decide +kernel
theorem d_X11_steps_179 : decode prog_13_method_65_code 179 = .ok (.ifCond .ne 7, 3) := by decide +kernel
theorem d_X11_steps_182 : decode prog_13_method_65_code 182 = .ok (.iconst 1, 1) := by decide +kernel
theorem d_X11_steps_183 : decode prog_13_method_65_code 183 = .ok (.goto 4, 3) := by decide +kernel
theorem d_X11_steps_186 : decode prog_13_method_65_code 186 = .ok (.iconst 0, 1) := by decide +kernel
theorem d_X11_steps_187 : decode prog_13_method_65_code 187 = .ok (.isub, 1) := by decide +kernel
theorem d_X11_steps_188 : decode prog_13_method_65_code 188 = .ok (.putfield 378, 3) := by decide +kernel
theorem d_X11_steps_191 : decode prog_13_method_65_code 191 = .ok (.return_, 1) := by decide +kernel
theorem d_X11_steps_192 : decode prog_13_method_65_code 192 = .ok (.aload_n 0, 1) := by decide +kernel
theorem d_X11_steps_193 : decode prog_13_method_65_code 193 = .ok (.getfield 149, 3) := by decide +kernel
theorem d_X11_steps_196 : decode prog_13_method_65_code 196 = .ok (.aload_n 0, 1) := by decide +kernel
theorem d_X11_steps_197 : decode prog_13_method_65_code 197 = .ok (.getfield 378, 3) := by decide +kernel
theorem d_X11_steps_200 : decode prog_13_method_65_code 200 = .ok (.dup2, 1) := by decide +kernel
theorem d_X11_steps_201 : decode prog_13_method_65_code 201 = .ok (.iaload, 1) := by decide +kernel
theorem d_X11_steps_202 : decode prog_13_method_65_code 202 = .ok (.iconst 1, 1) := by decide +kernel
theorem d_X11_steps_203 : decode prog_13_method_65_code 203 = .ok (.iadd, 1) := by decide +kernel
theorem d_X11_steps_204 : decode prog_13_method_65_code 204 = .ok (.iastore, 1) := by decide +kernel
theorem d_X11_steps_205 : decode prog_13_method_65_code 205 = .ok (.aload_n 0, 1) := by decide +kernel
theorem d_X11_steps_206 : decode prog_13_method_65_code 206 = .ok (.getfield 378, 3) := by decide +kernel
theorem d_X11_steps_209 : decode prog_13_method_65_code 209 = .ok (.ifCond .ne 11, 3) := by decide +kernel
theorem d_X11_steps_212 : decode prog_13_method_65_code 212 = .ok (.aload_n 0, 1) := by decide +kernel
theorem d_X11_steps_213 : decode prog_13_method_65_code 213 = .ok (.iload_n 3, 1) := by decide +kernel
theorem d_X11_steps_214 : decode prog_13_method_65_code 214 = .ok (.invokevirtual 393, 3) := by decide +kernel
theorem d_X11_steps_217 : decode prog_13_method_65_code 217 = .ok (.goto 15, 3) := by decide +kernel
theorem d_X11_steps_220 : decode prog_13_method_65_code 220 = .ok (.aload_n 0, 1) := by decide +kernel
theorem d_X11_steps_221 : decode prog_13_method_65_code 221 = .ok (.iload_n 1, 1) := by decide +kernel
theorem d_X11_steps_222 : decode prog_13_method_65_code 222 = .ok (.invokevirtual 352, 3) := by decide +kernel
theorem d_X11_steps_225 : decode prog_13_method_65_code 225 = .ok (.aload_n 0, 1) := by decide +kernel
theorem d_X11_steps_226 : decode prog_13_method_65_code 226 = .ok (.iload_n 1, 1) := by decide +kernel
theorem d_X11_steps_227 : decode prog_13_method_65_code 227 = .ok (.iload_n 2, 1) := by decide +kernel
theorem d_X11_steps_228 : decode prog_13_method_65_code 228 = .ok (.iload_n 3, 1) := by decide +kernel
theorem d_X11_steps_229 : decode prog_13_method_65_code 229 = .ok (.invokevirtual 396, 3) := by decide +kernel
theorem d_X11_steps_232 : decode prog_13_method_65_code 232 = .ok (.return_, 1) := by decide +kernel
def f_X11_steps_118 (rec_76 : Int → tp_M → Option (tp_M)) (x1 : Int) (x2 : Int) (x3 : Int) (s0 : Int) (s1 : Int) (M0 : tp_M) : Option (tp_M) :=
  if 0 ≤ s1 ∧ s1 < 9 then
    tp_mp (tp_up M0 489 s1 s0) fun M25 =>
    tp_lt (tp_w (x3 + 1)) fun y26 =>
    rec_76 y26 M25 else none
set_option maxHeartbeats 4000000 in
set_option maxRecDepth 100000 in
theorem T_X11_steps_118 (G : tp_G) (rec_76 : Int → tp_M → Option (tp_M)) (x1 : Int) (x2 : Int) (x3 : Int) (s0 : Int) (s1 : Int) (M0 : tp_M) (hrec_76 : ∀ (x3' : Int) (M' : tp_M), tp_J i_X11_steps (tp_rm 9) G 0 0 o_X11_steps tp_NC (tp_st M') 0 0 [some (.inr (.inr 483)), some (.inl x1), some (.inl x2), some (.inl (x3'))] 76 [] (rec_76 x3' M')) : tp_J i_X11_steps (tp_rm 9) G 0 0 o_X11_steps tp_NC (tp_st M0) 0 0 [some (.inr (.inr 483)), some (.inl x1), some (.inl x2), some (.inl x3)] 118 [.inl s0, .inl s1, .inr (.inr 489)] (f_X11_steps_118 rec_76 x1 x2 x3 s0 s1 M0) := by
  unfold f_X11_steps_118
  refine j_iast tg_489 al_489 d_X11_steps_118 (fun M25 hM25 => ?_)
  refine j_iincN (lv' := fun y26 => [some (.inr (.inr 483)), some (.inl x1), some (.inl x2), some (.inl y26)]) d_X11_steps_119 rfl (Nat.le_of_ble_eq_true rfl) (fun _ => rfl) (fun y26 hy26 => ?_)
  refine j_goto (tgt := 76) d_X11_steps_122 (by decide) ?_
  exact j_wk [true, true, true, true] rfl rfl (hrec_76 y26 M25)
def f_X11_steps_76B (x1 : Int) (x2 : Int) (rec_76 : Int → tp_M → Option (tp_M)) (x3 : Int) (M0 : tp_M) : Option (tp_M) :=
  if 9 ≤ x3 then
    (f_X11_takesApart M0).bind fun r5 =>
    if 0 ≤ (r5 483 61) ∧ (r5 483 61) < 8 then
      tp_lt ((r5 530 (r5 483 61))) fun y7 =>
      if ¬ y7 = (r5 483 12) then
        if 0 ≤ (r5 483 61) ∧ (r5 483 61) < 8 then
          if 0 ≤ (r5 483 61) ∧ (r5 483 61) < 8 then
            tp_mp (tp_up r5 530 (r5 483 61) (tp_w ((r5 530 (r5 483 61)) + 1))) fun M9 =>
            if ¬ (M9 483 61) = 0 then
              (f_X11_takesKnot x1 M9).bind fun r11 =>
              (f_X11_takesFactor x1 x2 y7 r11).bind fun r13 =>
              some r13
            else
              (f_X11_takesFirst y7 M9).bind fun r15 =>
              some r15 else none else none
      else
        if 0 ≤ (r5 483 61) ∧ (r5 483 61) < 8 then
          if 0 ≤ (r5 483 61) ∧ (r5 483 61) < 8 then
            tp_mp (tp_up r5 529 (r5 483 61) (tp_w ((r5 529 (r5 483 61)) + 1))) fun M17 =>
            if 0 ≤ (M17 483 61) ∧ (M17 483 61) < 8 then
              tp_mp (tp_up M17 530 (M17 483 61) 0) fun M18 =>
              if ¬ (M18 483 61) = 0 then
                tp_mp (tp_up M18 483 61 (tp_w ((M18 483 61) - 0))) fun M20 =>
                some M20
              else
                tp_mp (tp_up M18 483 61 (tp_w ((M18 483 61) - 1))) fun M21 =>
                some M21 else none else none else none else none
  else
    if (M0 483 61) ≤ 0 then
      if 0 ≤ x3 ∧ x3 < 9 then
        (f_X11_residue (M0 495 x3) M0).bind fun r23 =>
        f_X11_steps_118 rec_76 x1 x2 x3 r23 x3 M0 else none
    else
      if 0 ≤ (tp_w ((tp_w (9 * x2)) + x3)) ∧ (tp_w ((tp_w (9 * x2)) + x3)) < 576 then
        f_X11_steps_118 rec_76 x1 x2 x3 (M0 515 (tp_w ((tp_w (9 * x2)) + x3))) x3 M0 else none
set_option maxHeartbeats 4000000 in
set_option maxRecDepth 100000 in
theorem T_X11_steps_76B (G : tp_G) (x1 : Int) (x2 : Int) (rec_76 : Int → tp_M → Option (tp_M)) (hrec_76 : ∀ (x3' : Int) (M' : tp_M), tp_J i_X11_steps (tp_rm 9) G 0 0 o_X11_steps tp_NC (tp_st M') 0 0 [some (.inr (.inr 483)), some (.inl x1), some (.inl x2), some (.inl (x3'))] 76 [] (rec_76 x3' M')) (x3 : Int) (M0 : tp_M) : tp_J i_X11_steps (tp_rm 9) G 0 0 o_X11_steps tp_NC (tp_st M0) 0 0 [some (.inr (.inr 483)), some (.inl x1), some (.inl x2), some (.inl x3)] 76 [] (f_X11_steps_76B x1 x2 rec_76 x3 M0) := by
  unfold f_X11_steps_76B
  refine j_iload_n rfl d_X11_steps_76 rfl ?_
  refine j_bipush ⟨by decide, by decide⟩ (by decide +kernel) d_X11_steps_77 ?_
  refine j_icmp_ge (tgt := 125) d_X11_steps_79 (by decide) (fun h4 => ?_) (fun h4 => ?_)
  · refine j_aload_n rfl d_X11_steps_125 rfl ?_
    refine j_bind (fun r5 h6 => ?_)
    refine j_callV (y := y_X11_takesApart) (I' := i_X11_takesApart) (avs := []) (c := 483) (st := []) (c_X11_takesApart G M0 r5 h6) cs_Model_297 wd_1364 wd_1366 ws_53 tg_483 rfl rfl rfl (Nat.le_of_ble_eq_true rfl) ⟨rfl, rfl⟩ ⟨by decide, by decide⟩ ⟨by decide, by decide⟩ d_X11_steps_126 ?_
    refine j_aload_n rfl d_X11_steps_129 rfl ?_
    refine j_getr fl_Model_149 tg_483 rv_483_60 d_X11_steps_130 ?_
    refine j_aload_n rfl d_X11_steps_133 rfl ?_
    refine j_geti fl_Model_378 tg_483 d_X11_steps_134 ?_
    refine j_iald tg_530 al_530 d_X11_steps_137 ?_
    refine j_nmI (fun y7 hy7 => ?_)
    refine j_istore_n (lv' := [some (.inr (.inr 483)), some (.inl x1), some (.inl x2), some (.inl y7)]) rfl d_X11_steps_138 (Nat.le_of_ble_eq_true rfl) rfl ?_
    refine j_iload_n rfl d_X11_steps_139 rfl ?_
    refine j_aload_n rfl d_X11_steps_140 rfl ?_
    refine j_geti fl_Model_272 tg_483 d_X11_steps_141 ?_
    refine j_icmp_ne (tgt := 192) d_X11_steps_144 (by decide) (fun h8 => ?_) (fun h8 => ?_)
    · refine j_aload_n rfl d_X11_steps_192 rfl ?_
      refine j_getr fl_Model_149 tg_483 rv_483_60 d_X11_steps_193 ?_
      refine j_aload_n rfl d_X11_steps_196 rfl ?_
      refine j_geti fl_Model_378 tg_483 d_X11_steps_197 ?_
      refine j_dup2 d_X11_steps_200 (fun G => tp_cat G _) (fun G => tp_cat G _) ?_
      refine j_iald tg_530 al_530 d_X11_steps_201 ?_
      refine j_iconst ⟨by decide, by decide⟩ d_X11_steps_202 ?_
      refine j_iadd d_X11_steps_203 ?_
      refine j_iast tg_530 al_530 d_X11_steps_204 (fun M9 hM9 => ?_)
      refine j_aload_n rfl d_X11_steps_205 rfl ?_
      refine j_geti fl_Model_378 tg_483 d_X11_steps_206 ?_
      refine j_if_ne (tgt := 220) d_X11_steps_209 (by decide) (fun h10 => ?_) (fun h10 => ?_)
      · refine j_aload_n rfl d_X11_steps_220 rfl ?_
        refine j_iload_n rfl d_X11_steps_221 rfl ?_
        refine j_bind (fun r11 h12 => ?_)
        refine j_callV (y := y_X11_takesKnot) (I' := i_X11_takesKnot) (avs := [.inl x1]) (c := 483) (st := []) (c_X11_takesKnot G x1 M9 r11 h12) cs_Model_352 wd_1416 wd_1418 ws_65 tg_483 rfl rfl rfl (Nat.le_of_ble_eq_true rfl) ⟨rfl, rfl⟩ ⟨by decide, by decide⟩ ⟨by decide, by decide⟩ d_X11_steps_222 ?_
        refine j_aload_n rfl d_X11_steps_225 rfl ?_
        refine j_iload_n rfl d_X11_steps_226 rfl ?_
        refine j_iload_n rfl d_X11_steps_227 rfl ?_
        refine j_iload_n rfl d_X11_steps_228 rfl ?_
        refine j_bind (fun r13 h14 => ?_)
        refine j_callV (y := y_X11_takesFactor) (I' := i_X11_takesFactor) (avs := [.inl x1, .inl x2, .inl y7]) (c := 483) (st := []) (c_X11_takesFactor G x1 x2 y7 r11 r13 h14) cs_Model_396 wd_1475 wd_1477 ws_79 tg_483 rfl rfl rfl (Nat.le_of_ble_eq_true rfl) ⟨rfl, rfl⟩ ⟨by decide, by decide⟩ ⟨by decide, by decide⟩ d_X11_steps_229 ?_
        exact j_vret d_X11_steps_232 rfl rfl ⟨rfl, rfl⟩
      · refine j_aload_n rfl d_X11_steps_212 rfl ?_
        refine j_iload_n rfl d_X11_steps_213 rfl ?_
        refine j_bind (fun r15 h16 => ?_)
        refine j_callV (y := y_X11_takesFirst) (I' := i_X11_takesFirst) (avs := [.inl y7]) (c := 483) (st := []) (c_X11_takesFirst G y7 M9 r15 h16) cs_Model_393 wd_1392 wd_1394 ws_59 tg_483 rfl rfl rfl (Nat.le_of_ble_eq_true rfl) ⟨rfl, rfl⟩ ⟨by decide, by decide⟩ ⟨by decide, by decide⟩ d_X11_steps_214 ?_
        refine j_goto (tgt := 232) d_X11_steps_217 (by decide) ?_
        exact j_vret d_X11_steps_232 rfl rfl ⟨rfl, rfl⟩
    · refine j_aload_n rfl d_X11_steps_147 rfl ?_
      refine j_getr fl_Model_146 tg_483 rv_483_59 d_X11_steps_148 ?_
      refine j_aload_n rfl d_X11_steps_151 rfl ?_
      refine j_geti fl_Model_378 tg_483 d_X11_steps_152 ?_
      refine j_dup2 d_X11_steps_155 (fun G => tp_cat G _) (fun G => tp_cat G _) ?_
      refine j_iald tg_529 al_529 d_X11_steps_156 ?_
      refine j_iconst ⟨by decide, by decide⟩ d_X11_steps_157 ?_
      refine j_iadd d_X11_steps_158 ?_
      refine j_iast tg_529 al_529 d_X11_steps_159 (fun M17 hM17 => ?_)
      refine j_aload_n rfl d_X11_steps_160 rfl ?_
      refine j_getr fl_Model_149 tg_483 rv_483_60 d_X11_steps_161 ?_
      refine j_aload_n rfl d_X11_steps_164 rfl ?_
      refine j_geti fl_Model_378 tg_483 d_X11_steps_165 ?_
      refine j_iconst ⟨by decide, by decide⟩ d_X11_steps_168 ?_
      refine j_iast tg_530 al_530 d_X11_steps_169 (fun M18 hM18 => ?_)
      refine j_aload_n rfl d_X11_steps_170 rfl ?_
      refine j_dup d_X11_steps_171 (fun G => tp_cat G _) ?_
      refine j_geti fl_Model_378 tg_483 d_X11_steps_172 ?_
      refine j_aload_n rfl d_X11_steps_175 rfl ?_
      refine j_geti fl_Model_378 tg_483 d_X11_steps_176 ?_
      refine j_if_ne (tgt := 186) d_X11_steps_179 (by decide) (fun h19 => ?_) (fun h19 => ?_)
      · refine j_iconst ⟨by decide, by decide⟩ d_X11_steps_186 ?_
        refine j_isub d_X11_steps_187 ?_
        refine j_put (z := 0) (v := (tp_w ((M18 483 61) - 0))) fl_Model_378 (by decide) tg_483 (pf_11_61 _) pt_11 d_X11_steps_188 (fun M20 hM20 => ?_)
        exact j_vret d_X11_steps_191 rfl rfl ⟨rfl, rfl⟩
      · refine j_iconst ⟨by decide, by decide⟩ d_X11_steps_182 ?_
        refine j_goto (tgt := 187) d_X11_steps_183 (by decide) ?_
        refine j_isub d_X11_steps_187 ?_
        refine j_put (z := 0) (v := (tp_w ((M18 483 61) - 1))) fl_Model_378 (by decide) tg_483 (pf_11_61 _) pt_11 d_X11_steps_188 (fun M21 hM21 => ?_)
        exact j_vret d_X11_steps_191 rfl rfl ⟨rfl, rfl⟩
  · refine j_aload_n rfl d_X11_steps_82 rfl ?_
    refine j_getr fl_Model_26 tg_483 rv_483_10 d_X11_steps_83 ?_
    refine j_iload_n rfl d_X11_steps_86 rfl ?_
    refine j_aload_n rfl d_X11_steps_87 rfl ?_
    refine j_geti fl_Model_378 tg_483 d_X11_steps_88 ?_
    refine j_if_le (tgt := 108) d_X11_steps_91 (by decide) (fun h22 => ?_) (fun h22 => ?_)
    · refine j_aload_n rfl d_X11_steps_108 rfl ?_
      refine j_aload_n rfl d_X11_steps_109 rfl ?_
      refine j_getr fl_Model_44 tg_483 rv_483_19 d_X11_steps_110 ?_
      refine j_iload_n rfl d_X11_steps_113 rfl ?_
      refine j_lald tg_495 al_495 d_X11_steps_114 ?_
      refine j_bind (fun r23 h24 => ?_)
      refine j_callV (y := y_X11_residue) (I' := i_X11_residue) (avs := [.inr (.inl (M0 495 x3))]) (c := 483) (st := [.inl x3, .inr (.inr 489)]) (c_X11_residue G (M0 495 x3) M0 r23 h24) cs_Model_268 wd_1356 wd_1358 ws_51 tg_483 rfl rfl rfl (Nat.le_of_ble_eq_true rfl) ⟨rfl, rfl⟩ ⟨by decide, by decide⟩ ⟨by decide, by decide⟩ d_X11_steps_115 ?_
      exact j_wk [true, true, true, true] rfl rfl (T_X11_steps_118 G rec_76 x1 x2 x3 r23 x3 M0 hrec_76)
    · refine j_aload_n rfl d_X11_steps_94 rfl ?_
      refine j_getr fl_Model_104 tg_483 rv_483_43 d_X11_steps_95 ?_
      refine j_bipush ⟨by decide, by decide⟩ (by decide +kernel) d_X11_steps_98 ?_
      refine j_iload_n rfl d_X11_steps_100 rfl ?_
      refine j_imul d_X11_steps_101 ?_
      refine j_iload_n rfl d_X11_steps_102 rfl ?_
      refine j_iadd d_X11_steps_103 ?_
      refine j_iald tg_515 al_515 d_X11_steps_104 ?_
      refine j_goto (tgt := 118) d_X11_steps_105 (by decide) ?_
      exact j_wk [true, true, true, true] rfl rfl (T_X11_steps_118 G rec_76 x1 x2 x3 (M0 515 (tp_w ((tp_w (9 * x2)) + x3))) x3 M0 hrec_76)
def f_X11_steps_76 (x1 : Int) (x2 : Int) (x3 : Int) (M0 : tp_M) : Option (tp_M) := tp_lp (σ := Int × tp_M) (fun rec_ u => f_X11_steps_76B x1 x2 (fun x3' M0' => rec_ (x3', M0')) u.1 u.2) tp_N (x3, M0)
set_option maxHeartbeats 4000000 in
set_option maxRecDepth 100000 in
theorem T_X11_steps_76 (G : tp_G) (x1 : Int) (x2 : Int) (x3 : Int) (M0 : tp_M) : tp_J i_X11_steps (tp_rm 9) G 0 0 o_X11_steps tp_NC (tp_st M0) 0 0 [some (.inr (.inr 483)), some (.inl x1), some (.inl x2), some (.inl x3)] 76 [] (f_X11_steps_76 x1 x2 x3 M0) := by
  unfold f_X11_steps_76
  exact j_lp (σ := Int × tp_M) (n' := fun _ => tp_NC) (g' := fun u => tp_st u.2) (k' := fun _ => 0) (q' := fun _ => 0) (lv' := fun u => [some (.inr (.inr 483)), some (.inl x1), some (.inl x2), some (.inl u.1)]) (fun rec_ hrec u => T_X11_steps_76B G x1 x2 (fun x3' M0' => rec_ (x3', M0')) (fun x3' M0' => hrec (x3', M0')) u.1 u.2) tp_N (x3, M0)
def f_X11_steps_73 (x1 : Int) (s0 : Int) (M0 : tp_M) : Option (tp_M) :=
  f_X11_steps_76 x1 s0 0 M0
set_option maxHeartbeats 4000000 in
set_option maxRecDepth 100000 in
theorem T_X11_steps_73 (G : tp_G) (x1 : Int) (s0 : Int) (M0 : tp_M) : tp_J i_X11_steps (tp_rm 9) G 0 0 o_X11_steps tp_NC (tp_st M0) 0 0 [some (.inr (.inr 483)), some (.inl x1), none, none] 73 [.inl s0] (f_X11_steps_73 x1 s0 M0) := by
  unfold f_X11_steps_73
  refine j_istore_n (lv' := [some (.inr (.inr 483)), some (.inl x1), some (.inl s0), none]) rfl d_X11_steps_73 (Nat.le_of_ble_eq_true rfl) rfl ?_
  refine j_iconst ⟨by decide, by decide⟩ d_X11_steps_74 ?_
  refine j_istore_n (lv' := [some (.inr (.inr 483)), some (.inl x1), some (.inl s0), some (.inl 0)]) rfl d_X11_steps_75 (Nat.le_of_ble_eq_true rfl) rfl ?_
  exact j_wk [true, true, true, true] rfl rfl (T_X11_steps_76 G x1 s0 0 M0)
def f_X11_steps_46 (x1 : Int) (M0 : tp_M) : Option (tp_M) :=
  if (M0 483 61) ≤ 0 then
    f_X11_steps_73 x1 0 M0
  else
    if 0 ≤ x1 ∧ x1 < 40 then
      if 0 ≤ (M0 483 61) ∧ (M0 483 61) < 8 then
        f_X11_steps_73 x1 (tp_w ((M0 499 x1) + (M0 529 (M0 483 61)))) M0 else none else none
set_option maxHeartbeats 4000000 in
set_option maxRecDepth 100000 in
theorem T_X11_steps_46 (G : tp_G) (x1 : Int) (M0 : tp_M) : tp_J i_X11_steps (tp_rm 9) G 0 0 o_X11_steps tp_NC (tp_st M0) 0 0 [some (.inr (.inr 483)), some (.inl x1), none, none] 46 [] (f_X11_steps_46 x1 M0) := by
  unfold f_X11_steps_46
  refine j_aload_n rfl d_X11_steps_46 rfl ?_
  refine j_geti fl_Model_378 tg_483 d_X11_steps_47 ?_
  refine j_if_le (tgt := 72) d_X11_steps_50 (by decide) (fun h3 => ?_) (fun h3 => ?_)
  · refine j_iconst ⟨by decide, by decide⟩ d_X11_steps_72 ?_
    exact j_wk [true, true, false, false] rfl rfl (T_X11_steps_73 G x1 0 M0)
  · refine j_aload_n rfl d_X11_steps_53 rfl ?_
    refine j_getr fl_Model_56 tg_483 rv_483_27 d_X11_steps_54 ?_
    refine j_iload_n rfl d_X11_steps_57 rfl ?_
    refine j_iald tg_499 al_499 d_X11_steps_58 ?_
    refine j_aload_n rfl d_X11_steps_59 rfl ?_
    refine j_getr fl_Model_146 tg_483 rv_483_59 d_X11_steps_60 ?_
    refine j_aload_n rfl d_X11_steps_63 rfl ?_
    refine j_geti fl_Model_378 tg_483 d_X11_steps_64 ?_
    refine j_iald tg_529 al_529 d_X11_steps_67 ?_
    refine j_iadd d_X11_steps_68 ?_
    refine j_goto (tgt := 73) d_X11_steps_69 (by decide) ?_
    exact j_wk [true, true, false, false] rfl rfl (T_X11_steps_73 G x1 (tp_w ((M0 499 x1) + (M0 529 (M0 483 61)))) M0)
def f_X11_steps (M0 : tp_M) : Option (tp_M) :=
  if 0 ≤ (M0 483 61) ∧ (M0 483 61) < 8 then
    tp_lt ((M0 528 (M0 483 61))) fun y1 =>
    if (M0 483 61) ≤ 0 then
      f_X11_steps_46 y1 M0
    else
      if 0 ≤ (M0 483 61) ∧ (M0 483 61) < 8 then
        if 0 ≤ y1 ∧ y1 < 40 then
          if ¬ (M0 529 (M0 483 61)) = (M0 500 y1) then
            f_X11_steps_46 y1 M0
          else
            tp_mp (tp_up M0 483 61 (tp_w ((M0 483 61) - 1))) fun M28 =>
            some M28 else none else none else none
set_option maxHeartbeats 4000000 in
set_option maxRecDepth 100000 in
theorem T_X11_steps (G : tp_G) (M0 : tp_M) : tp_J i_X11_steps (tp_rm 9) G 0 0 o_X11_steps tp_NC (tp_st M0) 0 0 [some (.inr (.inr 483)), none, none, none] 0 [] (f_X11_steps M0) := by
  unfold f_X11_steps
  refine j_aload_n rfl d_X11_steps_0 rfl ?_
  refine j_getr fl_Model_143 tg_483 rv_483_58 d_X11_steps_1 ?_
  refine j_aload_n rfl d_X11_steps_4 rfl ?_
  refine j_geti fl_Model_378 tg_483 d_X11_steps_5 ?_
  refine j_iald tg_528 al_528 d_X11_steps_8 ?_
  refine j_nmI (fun y1 hy1 => ?_)
  refine j_istore_n (lv' := [some (.inr (.inr 483)), some (.inl y1), none, none]) rfl d_X11_steps_9 (Nat.le_of_ble_eq_true rfl) rfl ?_
  refine j_aload_n rfl d_X11_steps_10 rfl ?_
  refine j_geti fl_Model_378 tg_483 d_X11_steps_11 ?_
  refine j_if_le (tgt := 46) d_X11_steps_14 (by decide) (fun h2 => ?_) (fun h2 => ?_)
  · exact j_wk [true, true, false, false] rfl rfl (T_X11_steps_46 G y1 M0)
  · refine j_aload_n rfl d_X11_steps_17 rfl ?_
    refine j_getr fl_Model_146 tg_483 rv_483_59 d_X11_steps_18 ?_
    refine j_aload_n rfl d_X11_steps_21 rfl ?_
    refine j_geti fl_Model_378 tg_483 d_X11_steps_22 ?_
    refine j_iald tg_529 al_529 d_X11_steps_25 ?_
    refine j_aload_n rfl d_X11_steps_26 rfl ?_
    refine j_getr fl_Model_59 tg_483 rv_483_28 d_X11_steps_27 ?_
    refine j_iload_n rfl d_X11_steps_30 rfl ?_
    refine j_iald tg_500 al_500 d_X11_steps_31 ?_
    refine j_icmp_ne (tgt := 46) d_X11_steps_32 (by decide) (fun h27 => ?_) (fun h27 => ?_)
    · exact j_wk [true, true, false, false] rfl rfl (T_X11_steps_46 G y1 M0)
    · refine j_aload_n rfl d_X11_steps_35 rfl ?_
      refine j_dup d_X11_steps_36 (fun G => tp_cat G _) ?_
      refine j_geti fl_Model_378 tg_483 d_X11_steps_37 ?_
      refine j_iconst ⟨by decide, by decide⟩ d_X11_steps_40 ?_
      refine j_isub d_X11_steps_41 ?_
      refine j_put (z := 0) (v := (tp_w ((M0 483 61) - 1))) fl_Model_378 (by decide) tg_483 (pf_11_61 _) pt_11 d_X11_steps_42 (fun M28 hM28 => ?_)
      exact j_vret d_X11_steps_45 rfl rfl ⟨rfl, rfl⟩
set_option maxHeartbeats 4000000 in
set_option maxRecDepth 100000 in
theorem c_X11_steps (G : tp_G) (M0 : tp_M) (r : tp_M) (h : f_X11_steps M0 = some r) (l : Launch) : Met l y_X11_steps (tp_ws y_X11_steps i_X11_steps) (tp_rm 9) (tp_Pc G [.inr (.inr 483)] tp_NC (tp_st M0)) (tp_Q G (o_X11_steps r)) 0 0 (tp_A G) :=
  tp_met (I := i_X11_steps) (y := y_X11_steps) (by decide +kernel) (Eq.refl "TypesAtPrimeModel") (Eq.refl "steps") (lv := [some (.inr (.inr 483)), none, none, none]) rfl (Nat.le_of_ble_eq_true rfl) (T_X11_steps G M0) h l
theorem wd_1090 : (.fieldLink "TypesAtPrimeModel" 152 "TypesAtPrimeModel" "spelled" "[I" : Cond) ∈ lw_tbl := List.mem_append_right _ (List.mem_of_getElem? (i := 1090) (by decide +kernel))
theorem fl_Model_152 : tp_F "TypesAtPrimeModel" 152 11 62 2 := ⟨_, _, _, rfl, by decide, rfl, wd_1090, rfl, by decide⟩
theorem tg_531 : tp_tg 531 = 21 := by decide +kernel
theorem al_531 : tp_al 531 = 160 := by decide +kernel
theorem rv_483_62 : tp_rv 483 62 = 531 := by decide +kernel
theorem wd_1091 : (.fieldLink "TypesAtPrimeModel" 399 "TypesAtPrimeModel" "spelledMany" "I" : Cond) ∈ lw_tbl := List.mem_append_right _ (List.mem_of_getElem? (i := 1091) (by decide +kernel))
theorem fl_Model_399 : tp_F "TypesAtPrimeModel" 399 11 63 0 := ⟨_, _, _, rfl, by decide, rfl, wd_1091, rfl, by decide⟩
theorem pf_11_63 (v : Int) : ∀ (C : String) (T : u_T) (N : Nat), vwCl[11]? = some (C, T, N) → (T 63).2.2.2 = false ∧ ∀ G : tp_G, ∃ ty, parseFieldDescriptor (T 63).2.2.1 = some ty ∧ narrow ty (tp_enc G (tp_zv 0 v)) = tp_enc G (tp_zv 0 v) ∧ fits ty (tp_enc G (tp_zv 0 v)) = true := by
  intro C T N h
  cases h
  exact ⟨rfl, fun G => ⟨_, tyX11_ok 63 (by decide), rfl, rfl⟩⟩
def y_X11_spells : MethodName := ⟨"TypesAtPrimeModel", "spells", "(I)V"⟩
abbrev i_X11_spells : tp_I := (prog_13_method_66_code, "TypesAtPrimeModel", none, 2, "spells")
abbrev o_X11_spells : tp_M → tp_O := fun r => (none, tp_NC, tp_st r)
theorem d_X11_spells_0 : decode prog_13_method_66_code 0 = .ok (.aload_n 0, 1) := by decide +kernel
theorem d_X11_spells_1 : decode prog_13_method_66_code 1 = .ok (.getfield 152, 3) := by decide +kernel
theorem d_X11_spells_4 : decode prog_13_method_66_code 4 = .ok (.aload_n 0, 1) := by decide +kernel
theorem d_X11_spells_5 : decode prog_13_method_66_code 5 = .ok (.getfield 399, 3) := by decide +kernel
theorem d_X11_spells_8 : decode prog_13_method_66_code 8 = .ok (.iload_n 1, 1) := by decide +kernel
theorem d_X11_spells_9 : decode prog_13_method_66_code 9 = .ok (.iastore, 1) := by decide +kernel
theorem d_X11_spells_10 : decode prog_13_method_66_code 10 = .ok (.aload_n 0, 1) := by decide +kernel
theorem d_X11_spells_11 : decode prog_13_method_66_code 11 = .ok (.dup, 1) := by decide +kernel
theorem d_X11_spells_12 : decode prog_13_method_66_code 12 = .ok (.getfield 399, 3) := by decide +kernel
theorem d_X11_spells_15 : decode prog_13_method_66_code 15 = .ok (.iconst 1, 1) := by decide +kernel
theorem d_X11_spells_16 : decode prog_13_method_66_code 16 = .ok (.iadd, 1) := by decide +kernel
theorem d_X11_spells_17 : decode prog_13_method_66_code 17 = .ok (.putfield 399, 3) := by decide +kernel
theorem d_X11_spells_20 : decode prog_13_method_66_code 20 = .ok (.return_, 1) := by decide +kernel
def f_X11_spells (a0 : Int) (M0 : tp_M) : Option (tp_M) :=
  if 0 ≤ (M0 483 63) ∧ (M0 483 63) < 160 then
    tp_mp (tp_up M0 531 (M0 483 63) a0) fun M1 =>
    tp_mp (tp_up M1 483 63 (tp_w ((M1 483 63) + 1))) fun M2 =>
    some M2 else none
set_option maxHeartbeats 4000000 in
set_option maxRecDepth 100000 in
theorem T_X11_spells (G : tp_G) (a0 : Int) (M0 : tp_M) : tp_J i_X11_spells (tp_rm 0) G 0 0 o_X11_spells tp_NC (tp_st M0) 0 0 [some (.inr (.inr 483)), some (.inl a0)] 0 [] (f_X11_spells a0 M0) := by
  unfold f_X11_spells
  refine j_aload_n rfl d_X11_spells_0 rfl ?_
  refine j_getr fl_Model_152 tg_483 rv_483_62 d_X11_spells_1 ?_
  refine j_aload_n rfl d_X11_spells_4 rfl ?_
  refine j_geti fl_Model_399 tg_483 d_X11_spells_5 ?_
  refine j_iload_n rfl d_X11_spells_8 rfl ?_
  refine j_iast tg_531 al_531 d_X11_spells_9 (fun M1 hM1 => ?_)
  refine j_aload_n rfl d_X11_spells_10 rfl ?_
  refine j_dup d_X11_spells_11 (fun G => tp_cat G _) ?_
  refine j_geti fl_Model_399 tg_483 d_X11_spells_12 ?_
  refine j_iconst ⟨by decide, by decide⟩ d_X11_spells_15 ?_
  refine j_iadd d_X11_spells_16 ?_
  refine j_put (z := 0) (v := (tp_w ((M1 483 63) + 1))) fl_Model_399 (by decide) tg_483 (pf_11_63 _) pt_11 d_X11_spells_17 (fun M2 hM2 => ?_)
  exact j_vret d_X11_spells_20 rfl rfl ⟨rfl, rfl⟩
set_option maxHeartbeats 4000000 in
set_option maxRecDepth 100000 in
theorem c_X11_spells (G : tp_G) (a0 : Int) (M0 : tp_M) (r : tp_M) (h : f_X11_spells a0 M0 = some r) (l : Launch) : Met l y_X11_spells (tp_ws y_X11_spells i_X11_spells) (tp_rm 0) (tp_Pc G [.inr (.inr 483), .inl a0] tp_NC (tp_st M0)) (tp_Q G (o_X11_spells r)) 0 0 (tp_A G) :=
  tp_met (I := i_X11_spells) (y := y_X11_spells) (by decide +kernel) (Eq.refl "TypesAtPrimeModel") (Eq.refl "spells") (lv := [some (.inr (.inr 483)), some (.inl a0)]) rfl (Nat.le_of_ble_eq_true rfl) (T_X11_spells G a0 M0) h l
theorem wd_1498 : (.code ⟨"TypesAtPrimeModel", "spells", "(I)V"⟩ prog_13_method_66_code 2 (none : Option Jvm.ClassFile.FieldType) : Cond) ∈ lw_tbl := List.mem_append_right _ (List.mem_of_getElem? (i := 1498) (by decide +kernel))
theorem cs_Model_402 : tp_CS "TypesAtPrimeModel" 402 y_X11_spells i_X11_spells 1 := ⟨wd_1498, wd_12, by decide, by decide, by decide +kernel⟩
theorem wd_1495 : (.methodLink "TypesAtPrimeModel" 402 ⟨"TypesAtPrimeModel", "spells", "(I)V"⟩ : Cond) ∈ lw_tbl := List.mem_append_right _ (List.mem_of_getElem? (i := 1495) (by decide +kernel))
theorem wd_1497 : (.instanceMethod ⟨"TypesAtPrimeModel", "spells", "(I)V"⟩ : Cond) ∈ lw_tbl := List.mem_append_right _ (List.mem_of_getElem? (i := 1497) (by decide +kernel))
theorem ws_84 : (.selects "TypesAtPrimeModel" ⟨"TypesAtPrimeModel", "spells", "(I)V"⟩ ⟨"TypesAtPrimeModel", "spells", "(I)V"⟩ : Cond) ∈ lw_tbl := List.mem_append_left _ (List.mem_of_getElem? (i := 84) (by decide +kernel))
def y_X11_spellsNumber : MethodName := ⟨"TypesAtPrimeModel", "spellsNumber", "(I)V"⟩
abbrev i_X11_spellsNumber : tp_I := (prog_13_method_67_code, "TypesAtPrimeModel", none, 2, "spellsNumber")
abbrev o_X11_spellsNumber : tp_M → tp_O := fun r => (none, tp_NC, tp_st r)
theorem d_X11_spellsNumber_0 : decode prog_13_method_67_code 0 = .ok (.iload_n 1, 1) := by decide +kernel
theorem d_X11_spellsNumber_1 : decode prog_13_method_67_code 1 = .ok (.bipush 9, 2) := by decide +kernel
theorem d_X11_spellsNumber_3 : decode prog_13_method_67_code 3 = .ok (.if_icmp .le 14, 3) := by decide +kernel
theorem d_X11_spellsNumber_6 : decode prog_13_method_67_code 6 = .ok (.aload_n 0, 1) := by decide +kernel
theorem d_X11_spellsNumber_7 : decode prog_13_method_67_code 7 = .ok (.bipush 48, 2) := by decide +kernel
theorem d_X11_spellsNumber_9 : decode prog_13_method_67_code 9 = .ok (.iload_n 1, 1) := by decide +kernel
theorem d_X11_spellsNumber_10 : decode prog_13_method_67_code 10 = .ok (.bipush 10, 2) := by decide +kernel
theorem d_X11_spellsNumber_12 : decode prog_13_method_67_code 12 = .ok (.idiv, 1) := by decide +kernel
theorem d_X11_spellsNumber_13 : decode prog_13_method_67_code 13 = .ok (.iadd, 1) := by decide +kernel
theorem d_X11_spellsNumber_14 : decode prog_13_method_67_code 14 = .ok (.invokevirtual 402, 3) := by decide +kernel
theorem d_X11_spellsNumber_17 : decode prog_13_method_67_code 17 = .ok (.aload_n 0, 1) := by decide +kernel
theorem d_X11_spellsNumber_18 : decode prog_13_method_67_code 18 = .ok (.bipush 48, 2) := by decide +kernel
theorem d_X11_spellsNumber_20 : decode prog_13_method_67_code 20 = .ok (.iload_n 1, 1) := by decide +kernel
theorem d_X11_spellsNumber_21 : decode prog_13_method_67_code 21 = .ok (.bipush 10, 2) := by decide +kernel
theorem d_X11_spellsNumber_23 : decode prog_13_method_67_code 23 = .ok (.irem, 1) := by decide +kernel
theorem d_X11_spellsNumber_24 : decode prog_13_method_67_code 24 = .ok (.iadd, 1) := by decide +kernel
theorem d_X11_spellsNumber_25 : decode prog_13_method_67_code 25 = .ok (.invokevirtual 402, 3) := by decide +kernel
theorem d_X11_spellsNumber_28 : decode prog_13_method_67_code 28 = .ok (.return_, 1) := by decide +kernel
def f_X11_spellsNumber_17 (x1 : Int) (M0 : tp_M) : Option (tp_M) :=
  (f_X11_spells (tp_w (48 + (Int.tmod x1 10))) M0).bind fun r2 =>
  some r2
set_option maxHeartbeats 4000000 in
set_option maxRecDepth 100000 in
theorem T_X11_spellsNumber_17 (G : tp_G) (x1 : Int) (M0 : tp_M) : tp_J i_X11_spellsNumber (tp_rm 1) G 0 0 o_X11_spellsNumber tp_NC (tp_st M0) 0 0 [some (.inr (.inr 483)), some (.inl x1)] 17 [] (f_X11_spellsNumber_17 x1 M0) := by
  unfold f_X11_spellsNumber_17
  refine j_aload_n rfl d_X11_spellsNumber_17 rfl ?_
  refine j_bipush ⟨by decide, by decide⟩ (by decide +kernel) d_X11_spellsNumber_18 ?_
  refine j_iload_n rfl d_X11_spellsNumber_20 rfl ?_
  refine j_bipush ⟨by decide, by decide⟩ (by decide +kernel) d_X11_spellsNumber_21 ?_
  refine j_iremC (by decide) d_X11_spellsNumber_23 ?_
  refine j_iadd d_X11_spellsNumber_24 ?_
  refine j_bind (fun r2 h3 => ?_)
  refine j_callV (y := y_X11_spells) (I' := i_X11_spells) (avs := [.inl (tp_w (48 + (Int.tmod x1 10)))]) (c := 483) (st := []) (c_X11_spells G (tp_w (48 + (Int.tmod x1 10))) M0 r2 h3) cs_Model_402 wd_1495 wd_1497 ws_84 tg_483 rfl rfl rfl (Nat.le_of_ble_eq_true rfl) ⟨rfl, rfl⟩ ⟨by decide, by decide⟩ ⟨by decide, by decide⟩ d_X11_spellsNumber_25 ?_
  exact j_vret d_X11_spellsNumber_28 rfl rfl ⟨rfl, rfl⟩
def f_X11_spellsNumber (a0 : Int) (M0 : tp_M) : Option (tp_M) :=
  if a0 ≤ 9 then
    f_X11_spellsNumber_17 a0 M0
  else
    (f_X11_spells (tp_w (48 + (tp_w (Int.tdiv a0 10)))) M0).bind fun r4 =>
    f_X11_spellsNumber_17 a0 r4
set_option maxHeartbeats 4000000 in
set_option maxRecDepth 100000 in
theorem T_X11_spellsNumber (G : tp_G) (a0 : Int) (M0 : tp_M) : tp_J i_X11_spellsNumber (tp_rm 1) G 0 0 o_X11_spellsNumber tp_NC (tp_st M0) 0 0 [some (.inr (.inr 483)), some (.inl a0)] 0 [] (f_X11_spellsNumber a0 M0) := by
  unfold f_X11_spellsNumber
  refine j_iload_n rfl d_X11_spellsNumber_0 rfl ?_
  refine j_bipush ⟨by decide, by decide⟩ (by decide +kernel) d_X11_spellsNumber_1 ?_
  refine j_icmp_le (tgt := 17) d_X11_spellsNumber_3 (by decide) (fun h1 => ?_) (fun h1 => ?_)
  · exact j_wk [true, true] rfl rfl (T_X11_spellsNumber_17 G a0 M0)
  · refine j_aload_n rfl d_X11_spellsNumber_6 rfl ?_
    refine j_bipush ⟨by decide, by decide⟩ (by decide +kernel) d_X11_spellsNumber_7 ?_
    refine j_iload_n rfl d_X11_spellsNumber_9 rfl ?_
    refine j_bipush ⟨by decide, by decide⟩ (by decide +kernel) d_X11_spellsNumber_10 ?_
    refine j_idivC (by decide) d_X11_spellsNumber_12 ?_
    refine j_iadd d_X11_spellsNumber_13 ?_
    refine j_bind (fun r4 h5 => ?_)
    refine j_callV (y := y_X11_spells) (I' := i_X11_spells) (avs := [.inl (tp_w (48 + (tp_w (Int.tdiv a0 10))))]) (c := 483) (st := []) (c_X11_spells G (tp_w (48 + (tp_w (Int.tdiv a0 10)))) M0 r4 h5) cs_Model_402 wd_1495 wd_1497 ws_84 tg_483 rfl rfl rfl (Nat.le_of_ble_eq_true rfl) ⟨rfl, rfl⟩ ⟨by decide, by decide⟩ ⟨by decide, by decide⟩ d_X11_spellsNumber_14 ?_
    exact j_wk [true, true] rfl rfl (T_X11_spellsNumber_17 G a0 r4)
set_option maxHeartbeats 4000000 in
set_option maxRecDepth 100000 in
theorem c_X11_spellsNumber (G : tp_G) (a0 : Int) (M0 : tp_M) (r : tp_M) (h : f_X11_spellsNumber a0 M0 = some r) (l : Launch) : Met l y_X11_spellsNumber (tp_ws y_X11_spellsNumber i_X11_spellsNumber) (tp_rm 1) (tp_Pc G [.inr (.inr 483), .inl a0] tp_NC (tp_st M0)) (tp_Q G (o_X11_spellsNumber r)) 0 0 (tp_A G) :=
  tp_met (I := i_X11_spellsNumber) (y := y_X11_spellsNumber) (by decide +kernel) (Eq.refl "TypesAtPrimeModel") (Eq.refl "spellsNumber") (lv := [some (.inr (.inr 483)), some (.inl a0)]) rfl (Nat.le_of_ble_eq_true rfl) (T_X11_spellsNumber G a0 M0) h l
theorem wd_1502 : (.code ⟨"TypesAtPrimeModel", "spellsNumber", "(I)V"⟩ prog_13_method_67_code 2 (none : Option Jvm.ClassFile.FieldType) : Cond) ∈ lw_tbl := List.mem_append_right _ (List.mem_of_getElem? (i := 1502) (by decide +kernel))
theorem cs_Model_405 : tp_CS "TypesAtPrimeModel" 405 y_X11_spellsNumber i_X11_spellsNumber 1 := ⟨wd_1502, wd_12, by decide, by decide, by decide +kernel⟩
theorem wd_1499 : (.methodLink "TypesAtPrimeModel" 405 ⟨"TypesAtPrimeModel", "spellsNumber", "(I)V"⟩ : Cond) ∈ lw_tbl := List.mem_append_right _ (List.mem_of_getElem? (i := 1499) (by decide +kernel))
theorem wd_1501 : (.instanceMethod ⟨"TypesAtPrimeModel", "spellsNumber", "(I)V"⟩ : Cond) ∈ lw_tbl := List.mem_append_right _ (List.mem_of_getElem? (i := 1501) (by decide +kernel))
theorem ws_85 : (.selects "TypesAtPrimeModel" ⟨"TypesAtPrimeModel", "spellsNumber", "(I)V"⟩ ⟨"TypesAtPrimeModel", "spellsNumber", "(I)V"⟩ : Cond) ∈ lw_tbl := List.mem_append_left _ (List.mem_of_getElem? (i := 85) (by decide +kernel))
def y_X11_spellsAll : MethodName := ⟨"TypesAtPrimeModel", "spellsAll", "()V"⟩
abbrev i_X11_spellsAll : tp_I := (prog_13_method_68_code, "TypesAtPrimeModel", none, 4, "spellsAll")
abbrev o_X11_spellsAll : tp_M → tp_O := fun r => (none, tp_NC, tp_st r)
theorem d_X11_spellsAll_0 : decode prog_13_method_68_code 0 = .ok (.aload_n 0, 1) := by decide +kernel
theorem d_X11_spellsAll_1 : decode prog_13_method_68_code 1 = .ok (.iconst 0, 1) := by decide +kernel
theorem d_X11_spellsAll_2 : decode prog_13_method_68_code 2 = .ok (.putfield 399, 3) := by decide +kernel
theorem d_X11_spellsAll_5 : decode prog_13_method_68_code 5 = .ok (.iconst 0, 1) := by decide +kernel
theorem d_X11_spellsAll_6 : decode prog_13_method_68_code 6 = .ok (.istore_n 1, 1) := by decide +kernel
theorem d_X11_spellsAll_7 : decode prog_13_method_68_code 7 = .ok (.iload_n 1, 1) := by decide +kernel
theorem d_X11_spellsAll_8 : decode prog_13_method_68_code 8 = .ok (.aload_n 0, 1) := by decide +kernel
theorem d_X11_spellsAll_9 : decode prog_13_method_68_code 9 = .ok (.getfield 349, 3) := by decide +kernel
theorem d_X11_spellsAll_12 : decode prog_13_method_68_code 12 = .ok (.if_icmp .ge 100, 3) := by decide +kernel
theorem d_X11_spellsAll_15 : decode prog_13_method_68_code 15 = .ok (.iload_n 1, 1) := by decide +kernel
theorem d_X11_spellsAll_16 : decode prog_13_method_68_code 16 = .ok (.ifCond .le 9, 3) := by decide +kernel
theorem d_X11_spellsAll_19 : decode prog_13_method_68_code 19 = .ok (.aload_n 0, 1) := by decide +kernel
theorem d_X11_spellsAll_20 : decode prog_13_method_68_code 20 = .ok (.bipush 43, 2) := by decide +kernel
theorem d_X11_spellsAll_22 : decode prog_13_method_68_code 22 = .ok (.invokevirtual 402, 3) := by decide +kernel
theorem d_X11_spellsAll_25 : decode prog_13_method_68_code 25 = .ok (.aload_n 0, 1) := by decide +kernel
theorem d_X11_spellsAll_26 : decode prog_13_method_68_code 26 = .ok (.getfield 107, 3) := by decide +kernel
theorem d_X11_spellsAll_29 : decode prog_13_method_68_code 29 = .ok (.iload_n 1, 1) := by decide +kernel
theorem d_X11_spellsAll_30 : decode prog_13_method_68_code 30 = .ok (.iaload, 1) := by decide +kernel
theorem d_X11_spellsAll_31 : decode prog_13_method_68_code 31 = .ok (.istore_n 2, 1) := by decide +kernel
theorem d_X11_spellsAll_32 : decode prog_13_method_68_code 32 = .ok (.iconst 2, 1) := by decide +kernel
theorem d_X11_spellsAll_33 : decode prog_13_method_68_code 33 = .ok (.istore_n 3, 1) := by decide +kernel
theorem d_X11_spellsAll_34 : decode prog_13_method_68_code 34 = .ok (.iload_n 3, 1) := by decide +kernel
theorem d_X11_spellsAll_35 : decode prog_13_method_68_code 35 = .ok (.iload_n 2, 1) := by decide +kernel
theorem d_X11_spellsAll_36 : decode prog_13_method_68_code 36 = .ok (.if_icmp .gt 15, 3) := by decide +kernel
theorem d_X11_spellsAll_39 : decode prog_13_method_68_code 39 = .ok (.aload_n 0, 1) := by decide +kernel
theorem d_X11_spellsAll_40 : decode prog_13_method_68_code 40 = .ok (.bipush 63, 2) := by decide +kernel
theorem d_X11_spellsAll_42 : decode prog_13_method_68_code 42 = .ok (.invokevirtual 402, 3) := by decide +kernel
theorem d_X11_spellsAll_45 : decode prog_13_method_68_code 45 = .ok (.iinc 3 1, 3) := by decide +kernel
theorem d_X11_spellsAll_48 : decode prog_13_method_68_code 48 = .ok (.goto (-14), 3) := by decide +kernel
theorem d_X11_spellsAll_51 : decode prog_13_method_68_code 51 = .ok (.iload_n 2, 1) := by decide +kernel
theorem d_X11_spellsAll_52 : decode prog_13_method_68_code 52 = .ok (.iconst 2, 1) := by decide +kernel
theorem d_X11_spellsAll_53 : decode prog_13_method_68_code 53 = .ok (.if_icmp .lt 16, 3) := by decide +kernel
theorem d_X11_spellsAll_56 : decode prog_13_method_68_code 56 = .ok (.aload_n 0, 1) := by decide +kernel
theorem d_X11_spellsAll_57 : decode prog_13_method_68_code 57 = .ok (.aload_n 0, 1) := by decide +kernel
theorem d_X11_spellsAll_58 : decode prog_13_method_68_code 58 = .ok (.getfield 116, 3) := by decide +kernel
theorem d_X11_spellsAll_61 : decode prog_13_method_68_code 61 = .ok (.iload_n 1, 1) := by decide +kernel
theorem d_X11_spellsAll_62 : decode prog_13_method_68_code 62 = .ok (.iaload, 1) := by decide +kernel
theorem d_X11_spellsAll_63 : decode prog_13_method_68_code 63 = .ok (.invokevirtual 405, 3) := by decide +kernel
theorem d_X11_spellsAll_66 : decode prog_13_method_68_code 66 = .ok (.goto 29, 3) := by decide +kernel
theorem d_X11_spellsAll_69 : decode prog_13_method_68_code 69 = .ok (.aload_n 0, 1) := by decide +kernel
theorem d_X11_spellsAll_70 : decode prog_13_method_68_code 70 = .ok (.aload_n 0, 1) := by decide +kernel
theorem d_X11_spellsAll_71 : decode prog_13_method_68_code 71 = .ok (.getfield 110, 3) := by decide +kernel
theorem d_X11_spellsAll_74 : decode prog_13_method_68_code 74 = .ok (.iload_n 1, 1) := by decide +kernel
theorem d_X11_spellsAll_75 : decode prog_13_method_68_code 75 = .ok (.iaload, 1) := by decide +kernel
theorem d_X11_spellsAll_76 : decode prog_13_method_68_code 76 = .ok (.invokevirtual 405, 3) := by decide +kernel
theorem d_X11_spellsAll_79 : decode prog_13_method_68_code 79 = .ok (.aload_n 0, 1) := by decide +kernel
theorem d_X11_spellsAll_80 : decode prog_13_method_68_code 80 = .ok (.bipush 46, 2) := by decide +kernel
theorem d_X11_spellsAll_82 : decode prog_13_method_68_code 82 = .ok (.invokevirtual 402, 3) := by decide +kernel
theorem d_X11_spellsAll_85 : decode prog_13_method_68_code 85 = .ok (.aload_n 0, 1) := by decide +kernel
theorem d_X11_spellsAll_86 : decode prog_13_method_68_code 86 = .ok (.aload_n 0, 1) := by decide +kernel
theorem d_X11_spellsAll_87 : decode prog_13_method_68_code 87 = .ok (.getfield 113, 3) := by decide +kernel
theorem d_X11_spellsAll_90 : decode prog_13_method_68_code 90 = .ok (.iload_n 1, 1) := by decide +kernel
theorem d_X11_spellsAll_91 : decode prog_13_method_68_code 91 = .ok (.iaload, 1) := by decide +kernel
theorem d_X11_spellsAll_92 : decode prog_13_method_68_code 92 = .ok (.invokevirtual 405, 3) := by decide +kernel
theorem d_X11_spellsAll_95 : decode prog_13_method_68_code 95 = .ok (.iload_n 2, 1) := by decide +kernel
theorem d_X11_spellsAll_96 : decode prog_13_method_68_code 96 = .ok (.iconst 1, 1) := by decide +kernel
theorem d_X11_spellsAll_97 : decode prog_13_method_68_code 97 = .ok (.if_icmp .ne 9, 3) := by decide +kernel
theorem d_X11_spellsAll_100 : decode prog_13_method_68_code 100 = .ok (.aload_n 0, 1) := by decide +kernel
theorem d_X11_spellsAll_101 : decode prog_13_method_68_code 101 = .ok (.bipush 33, 2) := by decide +kernel
theorem d_X11_spellsAll_103 : decode prog_13_method_68_code 103 = .ok (.invokevirtual 402, 3) := by decide +kernel
theorem d_X11_spellsAll_106 : decode prog_13_method_68_code 106 = .ok (.iinc 1 1, 3) := by decide +kernel
theorem d_X11_spellsAll_109 : decode prog_13_method_68_code 109 = .ok (.goto (-102), 3) := by decide +kernel
theorem d_X11_spellsAll_112 : decode prog_13_method_68_code 112 = .ok (.return_, 1) := by decide +kernel
def f_X11_spellsAll_106 (rec_7 : Int → tp_M → Option (tp_M)) (x1 : Int) (M0 : tp_M) : Option (tp_M) :=
  tp_lt (tp_w (x1 + 1)) fun y14 =>
  rec_7 y14 M0
set_option maxHeartbeats 4000000 in
set_option maxRecDepth 100000 in
theorem T_X11_spellsAll_106 (G : tp_G) (rec_7 : Int → tp_M → Option (tp_M)) (x1 : Int) (M0 : tp_M) (hrec_7 : ∀ (x1' : Int) (M' : tp_M), tp_J i_X11_spellsAll (tp_rm 2) G 0 0 o_X11_spellsAll tp_NC (tp_st M') 0 0 [some (.inr (.inr 483)), some (.inl (x1')), none, none] 7 [] (rec_7 x1' M')) : tp_J i_X11_spellsAll (tp_rm 2) G 0 0 o_X11_spellsAll tp_NC (tp_st M0) 0 0 [some (.inr (.inr 483)), some (.inl x1), none, none] 106 [] (f_X11_spellsAll_106 rec_7 x1 M0) := by
  unfold f_X11_spellsAll_106
  refine j_iincN (lv' := fun y14 => [some (.inr (.inr 483)), some (.inl y14), none, none]) d_X11_spellsAll_106 rfl (Nat.le_of_ble_eq_true rfl) (fun _ => rfl) (fun y14 hy14 => ?_)
  refine j_goto (tgt := 7) d_X11_spellsAll_109 (by decide) ?_
  exact j_wk [true, true, false, false] rfl rfl (hrec_7 y14 M0)
def f_X11_spellsAll_95 (rec_7 : Int → tp_M → Option (tp_M)) (x1 : Int) (x2 : Int) (M0 : tp_M) : Option (tp_M) :=
  if ¬ x2 = 1 then
    f_X11_spellsAll_106 rec_7 x1 M0
  else
    (f_X11_spells 33 M0).bind fun r15 =>
    f_X11_spellsAll_106 rec_7 x1 r15
set_option maxHeartbeats 4000000 in
set_option maxRecDepth 100000 in
theorem T_X11_spellsAll_95 (G : tp_G) (rec_7 : Int → tp_M → Option (tp_M)) (x1 : Int) (x2 : Int) (M0 : tp_M) (hrec_7 : ∀ (x1' : Int) (M' : tp_M), tp_J i_X11_spellsAll (tp_rm 2) G 0 0 o_X11_spellsAll tp_NC (tp_st M') 0 0 [some (.inr (.inr 483)), some (.inl (x1')), none, none] 7 [] (rec_7 x1' M')) : tp_J i_X11_spellsAll (tp_rm 2) G 0 0 o_X11_spellsAll tp_NC (tp_st M0) 0 0 [some (.inr (.inr 483)), some (.inl x1), some (.inl x2), none] 95 [] (f_X11_spellsAll_95 rec_7 x1 x2 M0) := by
  unfold f_X11_spellsAll_95
  refine j_iload_n rfl d_X11_spellsAll_95 rfl ?_
  refine j_iconst ⟨by decide, by decide⟩ d_X11_spellsAll_96 ?_
  refine j_icmp_ne (tgt := 106) d_X11_spellsAll_97 (by decide) (fun h13 => ?_) (fun h13 => ?_)
  · exact j_wk [true, true, false, false] rfl rfl (T_X11_spellsAll_106 G rec_7 x1 M0 hrec_7)
  · refine j_aload_n rfl d_X11_spellsAll_100 rfl ?_
    refine j_bipush ⟨by decide, by decide⟩ (by decide +kernel) d_X11_spellsAll_101 ?_
    refine j_bind (fun r15 h16 => ?_)
    refine j_callV (y := y_X11_spells) (I' := i_X11_spells) (avs := [.inl 33]) (c := 483) (st := []) (c_X11_spells G 33 M0 r15 h16) cs_Model_402 wd_1495 wd_1497 ws_84 tg_483 rfl rfl rfl (Nat.le_of_ble_eq_true rfl) ⟨rfl, rfl⟩ ⟨by decide, by decide⟩ ⟨by decide, by decide⟩ d_X11_spellsAll_103 ?_
    exact j_wk [true, true, false, false] rfl rfl (T_X11_spellsAll_106 G rec_7 x1 r15 hrec_7)
def f_X11_spellsAll_34B (rec_7 : Int → tp_M → Option (tp_M)) (x1 : Int) (x2 : Int) (rec_34 : Int → tp_M → Option (tp_M)) (x3 : Int) (M0 : tp_M) : Option (tp_M) :=
  if x2 < x3 then
    if x2 < 2 then
      if 0 ≤ x1 ∧ x1 < 20 then
        (f_X11_spellsNumber (M0 517 x1) M0).bind fun r7 =>
        (f_X11_spells 46 r7).bind fun r9 =>
        if 0 ≤ x1 ∧ x1 < 20 then
          (f_X11_spellsNumber (r9 518 x1) r9).bind fun r11 =>
          f_X11_spellsAll_95 rec_7 x1 x2 r11 else none else none
    else
      if 0 ≤ x1 ∧ x1 < 20 then
        (f_X11_spellsNumber (M0 519 x1) M0).bind fun r17 =>
        f_X11_spellsAll_95 rec_7 x1 x2 r17 else none
  else
    (f_X11_spells 63 M0).bind fun r19 =>
    tp_lt (tp_w (x3 + 1)) fun y21 =>
    rec_34 y21 r19
set_option maxHeartbeats 4000000 in
set_option maxRecDepth 100000 in
theorem T_X11_spellsAll_34B (G : tp_G) (rec_7 : Int → tp_M → Option (tp_M)) (x1 : Int) (x2 : Int) (hrec_7 : ∀ (x1' : Int) (M' : tp_M), tp_J i_X11_spellsAll (tp_rm 2) G 0 0 o_X11_spellsAll tp_NC (tp_st M') 0 0 [some (.inr (.inr 483)), some (.inl (x1')), none, none] 7 [] (rec_7 x1' M')) (rec_34 : Int → tp_M → Option (tp_M)) (hrec_34 : ∀ (x3' : Int) (M' : tp_M), tp_J i_X11_spellsAll (tp_rm 2) G 0 0 o_X11_spellsAll tp_NC (tp_st M') 0 0 [some (.inr (.inr 483)), some (.inl x1), some (.inl x2), some (.inl (x3'))] 34 [] (rec_34 x3' M')) (x3 : Int) (M0 : tp_M) : tp_J i_X11_spellsAll (tp_rm 2) G 0 0 o_X11_spellsAll tp_NC (tp_st M0) 0 0 [some (.inr (.inr 483)), some (.inl x1), some (.inl x2), some (.inl x3)] 34 [] (f_X11_spellsAll_34B rec_7 x1 x2 rec_34 x3 M0) := by
  unfold f_X11_spellsAll_34B
  refine j_iload_n rfl d_X11_spellsAll_34 rfl ?_
  refine j_iload_n rfl d_X11_spellsAll_35 rfl ?_
  refine j_icmp_gt (tgt := 51) d_X11_spellsAll_36 (by decide) (fun h5 => ?_) (fun h5 => ?_)
  · refine j_iload_n rfl d_X11_spellsAll_51 rfl ?_
    refine j_iconst ⟨by decide, by decide⟩ d_X11_spellsAll_52 ?_
    refine j_icmp_lt (tgt := 69) d_X11_spellsAll_53 (by decide) (fun h6 => ?_) (fun h6 => ?_)
    · refine j_aload_n rfl d_X11_spellsAll_69 rfl ?_
      refine j_aload_n rfl d_X11_spellsAll_70 rfl ?_
      refine j_getr fl_Model_110 tg_483 rv_483_45 d_X11_spellsAll_71 ?_
      refine j_iload_n rfl d_X11_spellsAll_74 rfl ?_
      refine j_iald tg_517 al_517 d_X11_spellsAll_75 ?_
      refine j_bind (fun r7 h8 => ?_)
      refine j_callV (y := y_X11_spellsNumber) (I' := i_X11_spellsNumber) (avs := [.inl (M0 517 x1)]) (c := 483) (st := []) (c_X11_spellsNumber G (M0 517 x1) M0 r7 h8) cs_Model_405 wd_1499 wd_1501 ws_85 tg_483 rfl rfl rfl (Nat.le_of_ble_eq_true rfl) ⟨rfl, rfl⟩ ⟨by decide, by decide⟩ ⟨by decide, by decide⟩ d_X11_spellsAll_76 ?_
      refine j_aload_n rfl d_X11_spellsAll_79 rfl ?_
      refine j_bipush ⟨by decide, by decide⟩ (by decide +kernel) d_X11_spellsAll_80 ?_
      refine j_bind (fun r9 h10 => ?_)
      refine j_callV (y := y_X11_spells) (I' := i_X11_spells) (avs := [.inl 46]) (c := 483) (st := []) (c_X11_spells G 46 r7 r9 h10) cs_Model_402 wd_1495 wd_1497 ws_84 tg_483 rfl rfl rfl (Nat.le_of_ble_eq_true rfl) ⟨rfl, rfl⟩ ⟨by decide, by decide⟩ ⟨by decide, by decide⟩ d_X11_spellsAll_82 ?_
      refine j_aload_n rfl d_X11_spellsAll_85 rfl ?_
      refine j_aload_n rfl d_X11_spellsAll_86 rfl ?_
      refine j_getr fl_Model_113 tg_483 rv_483_46 d_X11_spellsAll_87 ?_
      refine j_iload_n rfl d_X11_spellsAll_90 rfl ?_
      refine j_iald tg_518 al_518 d_X11_spellsAll_91 ?_
      refine j_bind (fun r11 h12 => ?_)
      refine j_callV (y := y_X11_spellsNumber) (I' := i_X11_spellsNumber) (avs := [.inl (r9 518 x1)]) (c := 483) (st := []) (c_X11_spellsNumber G (r9 518 x1) r9 r11 h12) cs_Model_405 wd_1499 wd_1501 ws_85 tg_483 rfl rfl rfl (Nat.le_of_ble_eq_true rfl) ⟨rfl, rfl⟩ ⟨by decide, by decide⟩ ⟨by decide, by decide⟩ d_X11_spellsAll_92 ?_
      exact j_wk [true, true, true, false] rfl rfl (T_X11_spellsAll_95 G rec_7 x1 x2 r11 hrec_7)
    · refine j_aload_n rfl d_X11_spellsAll_56 rfl ?_
      refine j_aload_n rfl d_X11_spellsAll_57 rfl ?_
      refine j_getr fl_Model_116 tg_483 rv_483_47 d_X11_spellsAll_58 ?_
      refine j_iload_n rfl d_X11_spellsAll_61 rfl ?_
      refine j_iald tg_519 al_519 d_X11_spellsAll_62 ?_
      refine j_bind (fun r17 h18 => ?_)
      refine j_callV (y := y_X11_spellsNumber) (I' := i_X11_spellsNumber) (avs := [.inl (M0 519 x1)]) (c := 483) (st := []) (c_X11_spellsNumber G (M0 519 x1) M0 r17 h18) cs_Model_405 wd_1499 wd_1501 ws_85 tg_483 rfl rfl rfl (Nat.le_of_ble_eq_true rfl) ⟨rfl, rfl⟩ ⟨by decide, by decide⟩ ⟨by decide, by decide⟩ d_X11_spellsAll_63 ?_
      refine j_goto (tgt := 95) d_X11_spellsAll_66 (by decide) ?_
      exact j_wk [true, true, true, false] rfl rfl (T_X11_spellsAll_95 G rec_7 x1 x2 r17 hrec_7)
  · refine j_aload_n rfl d_X11_spellsAll_39 rfl ?_
    refine j_bipush ⟨by decide, by decide⟩ (by decide +kernel) d_X11_spellsAll_40 ?_
    refine j_bind (fun r19 h20 => ?_)
    refine j_callV (y := y_X11_spells) (I' := i_X11_spells) (avs := [.inl 63]) (c := 483) (st := []) (c_X11_spells G 63 M0 r19 h20) cs_Model_402 wd_1495 wd_1497 ws_84 tg_483 rfl rfl rfl (Nat.le_of_ble_eq_true rfl) ⟨rfl, rfl⟩ ⟨by decide, by decide⟩ ⟨by decide, by decide⟩ d_X11_spellsAll_42 ?_
    refine j_iincN (lv' := fun y21 => [some (.inr (.inr 483)), some (.inl x1), some (.inl x2), some (.inl y21)]) d_X11_spellsAll_45 rfl (Nat.le_of_ble_eq_true rfl) (fun _ => rfl) (fun y21 hy21 => ?_)
    refine j_goto (tgt := 34) d_X11_spellsAll_48 (by decide) ?_
    exact j_wk [true, true, true, true] rfl rfl (hrec_34 y21 r19)
def f_X11_spellsAll_34 (rec_7 : Int → tp_M → Option (tp_M)) (x1 : Int) (x2 : Int) (x3 : Int) (M0 : tp_M) : Option (tp_M) := tp_lp (σ := Int × tp_M) (fun rec_ u => f_X11_spellsAll_34B rec_7 x1 x2 (fun x3' M0' => rec_ (x3', M0')) u.1 u.2) tp_N (x3, M0)
set_option maxHeartbeats 4000000 in
set_option maxRecDepth 100000 in
theorem T_X11_spellsAll_34 (G : tp_G) (rec_7 : Int → tp_M → Option (tp_M)) (x1 : Int) (x2 : Int) (x3 : Int) (M0 : tp_M) (hrec_7 : ∀ (x1' : Int) (M' : tp_M), tp_J i_X11_spellsAll (tp_rm 2) G 0 0 o_X11_spellsAll tp_NC (tp_st M') 0 0 [some (.inr (.inr 483)), some (.inl (x1')), none, none] 7 [] (rec_7 x1' M')) : tp_J i_X11_spellsAll (tp_rm 2) G 0 0 o_X11_spellsAll tp_NC (tp_st M0) 0 0 [some (.inr (.inr 483)), some (.inl x1), some (.inl x2), some (.inl x3)] 34 [] (f_X11_spellsAll_34 rec_7 x1 x2 x3 M0) := by
  unfold f_X11_spellsAll_34
  exact j_lp (σ := Int × tp_M) (n' := fun _ => tp_NC) (g' := fun u => tp_st u.2) (k' := fun _ => 0) (q' := fun _ => 0) (lv' := fun u => [some (.inr (.inr 483)), some (.inl x1), some (.inl x2), some (.inl u.1)]) (fun rec_ hrec u => T_X11_spellsAll_34B G rec_7 x1 x2 hrec_7 (fun x3' M0' => rec_ (x3', M0')) (fun x3' M0' => hrec (x3', M0')) u.1 u.2) tp_N (x3, M0)
def f_X11_spellsAll_25 (rec_7 : Int → tp_M → Option (tp_M)) (x1 : Int) (M0 : tp_M) : Option (tp_M) :=
  if 0 ≤ x1 ∧ x1 < 20 then
    tp_lt ((M0 516 x1)) fun y4 =>
    f_X11_spellsAll_34 rec_7 x1 y4 2 M0 else none
set_option maxHeartbeats 4000000 in
set_option maxRecDepth 100000 in
theorem T_X11_spellsAll_25 (G : tp_G) (rec_7 : Int → tp_M → Option (tp_M)) (x1 : Int) (M0 : tp_M) (hrec_7 : ∀ (x1' : Int) (M' : tp_M), tp_J i_X11_spellsAll (tp_rm 2) G 0 0 o_X11_spellsAll tp_NC (tp_st M') 0 0 [some (.inr (.inr 483)), some (.inl (x1')), none, none] 7 [] (rec_7 x1' M')) : tp_J i_X11_spellsAll (tp_rm 2) G 0 0 o_X11_spellsAll tp_NC (tp_st M0) 0 0 [some (.inr (.inr 483)), some (.inl x1), none, none] 25 [] (f_X11_spellsAll_25 rec_7 x1 M0) := by
  unfold f_X11_spellsAll_25
  refine j_aload_n rfl d_X11_spellsAll_25 rfl ?_
  refine j_getr fl_Model_107 tg_483 rv_483_44 d_X11_spellsAll_26 ?_
  refine j_iload_n rfl d_X11_spellsAll_29 rfl ?_
  refine j_iald tg_516 al_516 d_X11_spellsAll_30 ?_
  refine j_nmI (fun y4 hy4 => ?_)
  refine j_istore_n (lv' := [some (.inr (.inr 483)), some (.inl x1), some (.inl y4), none]) rfl d_X11_spellsAll_31 (Nat.le_of_ble_eq_true rfl) rfl ?_
  refine j_iconst ⟨by decide, by decide⟩ d_X11_spellsAll_32 ?_
  refine j_istore_n (lv' := [some (.inr (.inr 483)), some (.inl x1), some (.inl y4), some (.inl 2)]) rfl d_X11_spellsAll_33 (Nat.le_of_ble_eq_true rfl) rfl ?_
  exact j_wk [true, true, true, true] rfl rfl (T_X11_spellsAll_34 G rec_7 x1 y4 2 M0 hrec_7)
def f_X11_spellsAll_7B (rec_7 : Int → tp_M → Option (tp_M)) (x1 : Int) (M0 : tp_M) : Option (tp_M) :=
  if (M0 483 23) ≤ x1 then
    some M0
  else
    if x1 ≤ 0 then
      f_X11_spellsAll_25 rec_7 x1 M0
    else
      (f_X11_spells 43 M0).bind fun r22 =>
      f_X11_spellsAll_25 rec_7 x1 r22
set_option maxHeartbeats 4000000 in
set_option maxRecDepth 100000 in
theorem T_X11_spellsAll_7B (G : tp_G) (rec_7 : Int → tp_M → Option (tp_M)) (hrec_7 : ∀ (x1' : Int) (M' : tp_M), tp_J i_X11_spellsAll (tp_rm 2) G 0 0 o_X11_spellsAll tp_NC (tp_st M') 0 0 [some (.inr (.inr 483)), some (.inl (x1')), none, none] 7 [] (rec_7 x1' M')) (x1 : Int) (M0 : tp_M) : tp_J i_X11_spellsAll (tp_rm 2) G 0 0 o_X11_spellsAll tp_NC (tp_st M0) 0 0 [some (.inr (.inr 483)), some (.inl x1), none, none] 7 [] (f_X11_spellsAll_7B rec_7 x1 M0) := by
  unfold f_X11_spellsAll_7B
  refine j_iload_n rfl d_X11_spellsAll_7 rfl ?_
  refine j_aload_n rfl d_X11_spellsAll_8 rfl ?_
  refine j_geti fl_Model_349 tg_483 d_X11_spellsAll_9 ?_
  refine j_icmp_ge (tgt := 112) d_X11_spellsAll_12 (by decide) (fun h2 => ?_) (fun h2 => ?_)
  · exact j_vret d_X11_spellsAll_112 rfl rfl ⟨rfl, rfl⟩
  · refine j_iload_n rfl d_X11_spellsAll_15 rfl ?_
    refine j_if_le (tgt := 25) d_X11_spellsAll_16 (by decide) (fun h3 => ?_) (fun h3 => ?_)
    · exact j_wk [true, true, false, false] rfl rfl (T_X11_spellsAll_25 G rec_7 x1 M0 hrec_7)
    · refine j_aload_n rfl d_X11_spellsAll_19 rfl ?_
      refine j_bipush ⟨by decide, by decide⟩ (by decide +kernel) d_X11_spellsAll_20 ?_
      refine j_bind (fun r22 h23 => ?_)
      refine j_callV (y := y_X11_spells) (I' := i_X11_spells) (avs := [.inl 43]) (c := 483) (st := []) (c_X11_spells G 43 M0 r22 h23) cs_Model_402 wd_1495 wd_1497 ws_84 tg_483 rfl rfl rfl (Nat.le_of_ble_eq_true rfl) ⟨rfl, rfl⟩ ⟨by decide, by decide⟩ ⟨by decide, by decide⟩ d_X11_spellsAll_22 ?_
      exact j_wk [true, true, false, false] rfl rfl (T_X11_spellsAll_25 G rec_7 x1 r22 hrec_7)
def f_X11_spellsAll_7 (x1 : Int) (M0 : tp_M) : Option (tp_M) := tp_lp (σ := Int × tp_M) (fun rec_ u => f_X11_spellsAll_7B (fun x1' M0' => rec_ (x1', M0')) u.1 u.2) tp_N (x1, M0)
set_option maxHeartbeats 4000000 in
set_option maxRecDepth 100000 in
theorem T_X11_spellsAll_7 (G : tp_G) (x1 : Int) (M0 : tp_M) : tp_J i_X11_spellsAll (tp_rm 2) G 0 0 o_X11_spellsAll tp_NC (tp_st M0) 0 0 [some (.inr (.inr 483)), some (.inl x1), none, none] 7 [] (f_X11_spellsAll_7 x1 M0) := by
  unfold f_X11_spellsAll_7
  exact j_lp (σ := Int × tp_M) (n' := fun _ => tp_NC) (g' := fun u => tp_st u.2) (k' := fun _ => 0) (q' := fun _ => 0) (lv' := fun u => [some (.inr (.inr 483)), some (.inl u.1), none, none]) (fun rec_ hrec u => T_X11_spellsAll_7B G (fun x1' M0' => rec_ (x1', M0')) (fun x1' M0' => hrec (x1', M0')) u.1 u.2) tp_N (x1, M0)
def f_X11_spellsAll (M0 : tp_M) : Option (tp_M) :=
  tp_mp (tp_up M0 483 63 0) fun M1 =>
  f_X11_spellsAll_7 0 M1
set_option maxHeartbeats 4000000 in
set_option maxRecDepth 100000 in
theorem T_X11_spellsAll (G : tp_G) (M0 : tp_M) : tp_J i_X11_spellsAll (tp_rm 2) G 0 0 o_X11_spellsAll tp_NC (tp_st M0) 0 0 [some (.inr (.inr 483)), none, none, none] 0 [] (f_X11_spellsAll M0) := by
  unfold f_X11_spellsAll
  refine j_aload_n rfl d_X11_spellsAll_0 rfl ?_
  refine j_iconst ⟨by decide, by decide⟩ d_X11_spellsAll_1 ?_
  refine j_put (z := 0) (v := 0) fl_Model_399 (by decide) tg_483 (pf_11_63 _) pt_11 d_X11_spellsAll_2 (fun M1 hM1 => ?_)
  refine j_iconst ⟨by decide, by decide⟩ d_X11_spellsAll_5 ?_
  refine j_istore_n (lv' := [some (.inr (.inr 483)), some (.inl 0), none, none]) rfl d_X11_spellsAll_6 (Nat.le_of_ble_eq_true rfl) rfl ?_
  exact j_wk [true, true, false, false] rfl rfl (T_X11_spellsAll_7 G 0 M1)
set_option maxHeartbeats 4000000 in
set_option maxRecDepth 100000 in
theorem c_X11_spellsAll (G : tp_G) (M0 : tp_M) (r : tp_M) (h : f_X11_spellsAll M0 = some r) (l : Launch) : Met l y_X11_spellsAll (tp_ws y_X11_spellsAll i_X11_spellsAll) (tp_rm 2) (tp_Pc G [.inr (.inr 483)] tp_NC (tp_st M0)) (tp_Q G (o_X11_spellsAll r)) 0 0 (tp_A G) :=
  tp_met (I := i_X11_spellsAll) (y := y_X11_spellsAll) (by decide +kernel) (Eq.refl "TypesAtPrimeModel") (Eq.refl "spellsAll") (lv := [some (.inr (.inr 483)), none, none, none]) rfl (Nat.le_of_ble_eq_true rfl) (T_X11_spellsAll G M0) h l
theorem wd_1048 : (.fieldLink "TypesAtPrimeModel" 408 "TypesAtPrimeModel" "itsDegree" "I" : Cond) ∈ lw_tbl := List.mem_append_right _ (List.mem_of_getElem? (i := 1048) (by decide +kernel))
theorem fl_Model_408 : tp_F "TypesAtPrimeModel" 408 11 20 0 := ⟨_, _, _, rfl, by decide, rfl, wd_1048, rfl, by decide⟩
theorem pf_11_20 (v : Int) : ∀ (C : String) (T : u_T) (N : Nat), vwCl[11]? = some (C, T, N) → (T 20).2.2.2 = false ∧ ∀ G : tp_G, ∃ ty, parseFieldDescriptor (T 20).2.2.1 = some ty ∧ narrow ty (tp_enc G (tp_zv 0 v)) = tp_enc G (tp_zv 0 v) ∧ fits ty (tp_enc G (tp_zv 0 v)) = true := by
  intro C T N h
  cases h
  exact ⟨rfl, fun G => ⟨_, tyX11_ok 20 (by decide), rfl, rfl⟩⟩
theorem wd_1494 : (.code ⟨"TypesAtPrimeModel", "spellsAll", "()V"⟩ prog_13_method_68_code 4 (none : Option Jvm.ClassFile.FieldType) : Cond) ∈ lw_tbl := List.mem_append_right _ (List.mem_of_getElem? (i := 1494) (by decide +kernel))
theorem cs_Model_414 : tp_CS "TypesAtPrimeModel" 414 y_X11_spellsAll i_X11_spellsAll 0 := ⟨wd_1494, wd_12, by decide, by decide, by decide +kernel⟩
theorem wd_1491 : (.methodLink "TypesAtPrimeModel" 414 ⟨"TypesAtPrimeModel", "spellsAll", "()V"⟩ : Cond) ∈ lw_tbl := List.mem_append_right _ (List.mem_of_getElem? (i := 1491) (by decide +kernel))
theorem wd_1493 : (.instanceMethod ⟨"TypesAtPrimeModel", "spellsAll", "()V"⟩ : Cond) ∈ lw_tbl := List.mem_append_right _ (List.mem_of_getElem? (i := 1493) (by decide +kernel))
theorem ws_83 : (.selects "TypesAtPrimeModel" ⟨"TypesAtPrimeModel", "spellsAll", "()V"⟩ ⟨"TypesAtPrimeModel", "spellsAll", "()V"⟩ : Cond) ∈ lw_tbl := List.mem_append_left _ (List.mem_of_getElem? (i := 83) (by decide +kernel))
theorem wd_1391 : (.code ⟨"TypesAtPrimeModel", "steps", "()V"⟩ prog_13_method_65_code 4 (none : Option Jvm.ClassFile.FieldType) : Cond) ∈ lw_tbl := List.mem_append_right _ (List.mem_of_getElem? (i := 1391) (by decide +kernel))
theorem cs_Model_411 : tp_CS "TypesAtPrimeModel" 411 y_X11_steps i_X11_steps 0 := ⟨wd_1391, wd_12, by decide, by decide, by decide +kernel⟩
theorem wd_1388 : (.methodLink "TypesAtPrimeModel" 411 ⟨"TypesAtPrimeModel", "steps", "()V"⟩ : Cond) ∈ lw_tbl := List.mem_append_right _ (List.mem_of_getElem? (i := 1388) (by decide +kernel))
theorem wd_1390 : (.instanceMethod ⟨"TypesAtPrimeModel", "steps", "()V"⟩ : Cond) ∈ lw_tbl := List.mem_append_right _ (List.mem_of_getElem? (i := 1390) (by decide +kernel))
theorem ws_58 : (.selects "TypesAtPrimeModel" ⟨"TypesAtPrimeModel", "steps", "()V"⟩ ⟨"TypesAtPrimeModel", "steps", "()V"⟩ : Cond) ∈ lw_tbl := List.mem_append_left _ (List.mem_of_getElem? (i := 58) (by decide +kernel))
def y_X11_grow : MethodName := ⟨"TypesAtPrimeModel", "grow", "(I)I"⟩
abbrev i_X11_grow : tp_I := (prog_13_method_69_code, "TypesAtPrimeModel", (some .int), 3, "grow")
abbrev o_X11_grow : Int × tp_M → tp_O := fun r => (some (.inl r.1), tp_NC, tp_st r.2)
theorem d_X11_grow_0 : decode prog_13_method_69_code 0 = .ok (.iload_n 1, 1) := by decide +kernel
theorem d_X11_grow_1 : decode prog_13_method_69_code 1 = .ok (.invokestatic 231, 3) := by decide +kernel
theorem d_X11_grow_4 : decode prog_13_method_69_code 4 = .ok (.ifCond .ne 5, 3) := by decide +kernel
theorem d_X11_grow_7 : decode prog_13_method_69_code 7 = .ok (.iconst (-1), 1) := by decide +kernel
theorem d_X11_grow_8 : decode prog_13_method_69_code 8 = .ok (.ireturn, 1) := by decide +kernel
theorem d_X11_grow_9 : decode prog_13_method_69_code 9 = .ok (.aload_n 0, 1) := by decide +kernel
theorem d_X11_grow_10 : decode prog_13_method_69_code 10 = .ok (.iload_n 1, 1) := by decide +kernel
theorem d_X11_grow_11 : decode prog_13_method_69_code 11 = .ok (.invokevirtual 248, 3) := by decide +kernel
theorem d_X11_grow_14 : decode prog_13_method_69_code 14 = .ok (.ifCond .ne 6, 3) := by decide +kernel
theorem d_X11_grow_17 : decode prog_13_method_69_code 17 = .ok (.bipush (-3), 2) := by decide +kernel
theorem d_X11_grow_19 : decode prog_13_method_69_code 19 = .ok (.ireturn, 1) := by decide +kernel
theorem d_X11_grow_20 : decode prog_13_method_69_code 20 = .ok (.iconst 0, 1) := by decide +kernel
theorem d_X11_grow_21 : decode prog_13_method_69_code 21 = .ok (.istore_n 2, 1) := by decide +kernel
theorem d_X11_grow_22 : decode prog_13_method_69_code 22 = .ok (.iload_n 2, 1) := by decide +kernel
theorem d_X11_grow_23 : decode prog_13_method_69_code 23 = .ok (.bipush 9, 2) := by decide +kernel
theorem d_X11_grow_25 : decode prog_13_method_69_code 25 = .ok (.if_icmp .ge 26, 3) := by decide +kernel
theorem d_X11_grow_28 : decode prog_13_method_69_code 28 = .ok (.aload_n 0, 1) := by decide +kernel
theorem d_X11_grow_29 : decode prog_13_method_69_code 29 = .ok (.getfield 44, 3) := by decide +kernel
theorem d_X11_grow_32 : decode prog_13_method_69_code 32 = .ok (.iload_n 2, 1) := by decide +kernel
theorem d_X11_grow_33 : decode prog_13_method_69_code 33 = .ok (.aload_n 0, 1) := by decide +kernel
theorem d_X11_grow_34 : decode prog_13_method_69_code 34 = .ok (.aload_n 0, 1) := by decide +kernel
theorem d_X11_grow_35 : decode prog_13_method_69_code 35 = .ok (.iload_n 1, 1) := by decide +kernel
theorem d_X11_grow_36 : decode prog_13_method_69_code 36 = .ok (.iload_n 2, 1) := by decide +kernel
theorem d_X11_grow_37 : decode prog_13_method_69_code 37 = .ok (.invokevirtual 183, 3) := by decide +kernel
theorem d_X11_grow_40 : decode prog_13_method_69_code 40 = .ok (.i2l, 1) := by decide +kernel
theorem d_X11_grow_41 : decode prog_13_method_69_code 41 = .ok (.invokevirtual 257, 3) := by decide +kernel
theorem d_X11_grow_44 : decode prog_13_method_69_code 44 = .ok (.lastore, 1) := by decide +kernel
theorem d_X11_grow_45 : decode prog_13_method_69_code 45 = .ok (.iinc 2 1, 3) := by decide +kernel
theorem d_X11_grow_48 : decode prog_13_method_69_code 48 = .ok (.goto (-26), 3) := by decide +kernel
theorem d_X11_grow_51 : decode prog_13_method_69_code 51 = .ok (.aload_n 0, 1) := by decide +kernel
theorem d_X11_grow_52 : decode prog_13_method_69_code 52 = .ok (.aload_n 0, 1) := by decide +kernel
theorem d_X11_grow_53 : decode prog_13_method_69_code 53 = .ok (.iload_n 1, 1) := by decide +kernel
theorem d_X11_grow_54 : decode prog_13_method_69_code 54 = .ok (.invokevirtual 187, 3) := by decide +kernel
theorem d_X11_grow_57 : decode prog_13_method_69_code 57 = .ok (.putfield 408, 3) := by decide +kernel
theorem d_X11_grow_60 : decode prog_13_method_69_code 60 = .ok (.aload_n 0, 1) := by decide +kernel
theorem d_X11_grow_61 : decode prog_13_method_69_code 61 = .ok (.iconst 1, 1) := by decide +kernel
theorem d_X11_grow_62 : decode prog_13_method_69_code 62 = .ok (.putfield 179, 3) := by decide +kernel
theorem d_X11_grow_65 : decode prog_13_method_69_code 65 = .ok (.aload_n 0, 1) := by decide +kernel
theorem d_X11_grow_66 : decode prog_13_method_69_code 66 = .ok (.iconst 0, 1) := by decide +kernel
theorem d_X11_grow_67 : decode prog_13_method_69_code 67 = .ok (.putfield 372, 3) := by decide +kernel
theorem d_X11_grow_70 : decode prog_13_method_69_code 70 = .ok (.aload_n 0, 1) := by decide +kernel
theorem d_X11_grow_71 : decode prog_13_method_69_code 71 = .ok (.iconst 0, 1) := by decide +kernel
theorem d_X11_grow_72 : decode prog_13_method_69_code 72 = .ok (.putfield 325, 3) := by decide +kernel
theorem d_X11_grow_75 : decode prog_13_method_69_code 75 = .ok (.aload_n 0, 1) := by decide +kernel
theorem d_X11_grow_76 : decode prog_13_method_69_code 76 = .ok (.iconst 0, 1) := by decide +kernel
theorem d_X11_grow_77 : decode prog_13_method_69_code 77 = .ok (.putfield 349, 3) := by decide +kernel
theorem d_X11_grow_80 : decode prog_13_method_69_code 80 = .ok (.aload_n 0, 1) := by decide +kernel
theorem d_X11_grow_81 : decode prog_13_method_69_code 81 = .ok (.iconst 0, 1) := by decide +kernel
theorem d_X11_grow_82 : decode prog_13_method_69_code 82 = .ok (.putfield 378, 3) := by decide +kernel
theorem d_X11_grow_85 : decode prog_13_method_69_code 85 = .ok (.aload_n 0, 1) := by decide +kernel
theorem d_X11_grow_86 : decode prog_13_method_69_code 86 = .ok (.getfield 143, 3) := by decide +kernel
theorem d_X11_grow_89 : decode prog_13_method_69_code 89 = .ok (.iconst 0, 1) := by decide +kernel
theorem d_X11_grow_90 : decode prog_13_method_69_code 90 = .ok (.iconst 0, 1) := by decide +kernel
theorem d_X11_grow_91 : decode prog_13_method_69_code 91 = .ok (.iastore, 1) := by decide +kernel
theorem d_X11_grow_92 : decode prog_13_method_69_code 92 = .ok (.aload_n 0, 1) := by decide +kernel
theorem d_X11_grow_93 : decode prog_13_method_69_code 93 = .ok (.getfield 146, 3) := by decide +kernel
theorem d_X11_grow_96 : decode prog_13_method_69_code 96 = .ok (.iconst 0, 1) := by decide +kernel
theorem d_X11_grow_97 : decode prog_13_method_69_code 97 = .ok (.iconst 0, 1) := by decide +kernel
theorem d_X11_grow_98 : decode prog_13_method_69_code 98 = .ok (.iastore, 1) := by decide +kernel
theorem d_X11_grow_99 : decode prog_13_method_69_code 99 = .ok (.aload_n 0, 1) := by decide +kernel
theorem d_X11_grow_100 : decode prog_13_method_69_code 100 = .ok (.getfield 149, 3) := by decide +kernel
theorem d_X11_grow_103 : decode prog_13_method_69_code 103 = .ok (.iconst 0, 1) := by decide +kernel
theorem d_X11_grow_104 : decode prog_13_method_69_code 104 = .ok (.iconst 0, 1) := by decide +kernel
theorem d_X11_grow_105 : decode prog_13_method_69_code 105 = .ok (.iastore, 1) := by decide +kernel
theorem d_X11_grow_106 : decode prog_13_method_69_code 106 = .ok (.aload_n 0, 1) := by decide +kernel
theorem d_X11_grow_107 : decode prog_13_method_69_code 107 = .ok (.getfield 378, 3) := by decide +kernel
theorem d_X11_grow_110 : decode prog_13_method_69_code 110 = .ok (.ifCond .lt 10, 3) := by decide +kernel
theorem d_X11_grow_113 : decode prog_13_method_69_code 113 = .ok (.aload_n 0, 1) := by decide +kernel
theorem d_X11_grow_114 : decode prog_13_method_69_code 114 = .ok (.invokevirtual 411, 3) := by decide +kernel
theorem d_X11_grow_117 : decode prog_13_method_69_code 117 = .ok (.goto (-11), 3) := by decide +kernel
theorem d_X11_grow_120 : decode prog_13_method_69_code 120 = .ok (.aload_n 0, 1) := by decide +kernel
theorem d_X11_grow_121 : decode prog_13_method_69_code 121 = .ok (.invokevirtual 414, 3) := by decide +kernel
theorem d_X11_grow_124 : decode prog_13_method_69_code 124 = .ok (.aload_n 0, 1) := by decide +kernel
theorem d_X11_grow_125 : decode prog_13_method_69_code 125 = .ok (.getfield 349, 3) := by decide +kernel
theorem d_X11_grow_128 : decode prog_13_method_69_code 128 = .ok (.ireturn, 1) := by decide +kernel
def f_X11_grow_106B (rec_106 : tp_M → Option (Int × tp_M)) (M0 : tp_M) : Option (Int × tp_M) :=
  if (M0 483 61) < 0 then
    (f_X11_spellsAll M0).bind fun r20 =>
    some ((r20 483 23), r20)
  else
    (f_X11_steps M0).bind fun r22 =>
    rec_106 r22
set_option maxHeartbeats 4000000 in
set_option maxRecDepth 100000 in
theorem T_X11_grow_106B (G : tp_G) (rec_106 : tp_M → Option (Int × tp_M)) (hrec_106 : ∀ (M' : tp_M), tp_J i_X11_grow (tp_rm 10) G 0 0 o_X11_grow tp_NC (tp_st M') 0 0 [some (.inr (.inr 483)), none, none] 106 [] (rec_106 M')) (M0 : tp_M) : tp_J i_X11_grow (tp_rm 10) G 0 0 o_X11_grow tp_NC (tp_st M0) 0 0 [some (.inr (.inr 483)), none, none] 106 [] (f_X11_grow_106B rec_106 M0) := by
  unfold f_X11_grow_106B
  refine j_aload_n rfl d_X11_grow_106 rfl ?_
  refine j_geti fl_Model_378 tg_483 d_X11_grow_107 ?_
  refine j_if_lt (tgt := 120) d_X11_grow_110 (by decide) (fun h19 => ?_) (fun h19 => ?_)
  · refine j_aload_n rfl d_X11_grow_120 rfl ?_
    refine j_bind (fun r20 h21 => ?_)
    refine j_callV (y := y_X11_spellsAll) (I' := i_X11_spellsAll) (avs := []) (c := 483) (st := []) (c_X11_spellsAll G M0 r20 h21) cs_Model_414 wd_1491 wd_1493 ws_83 tg_483 rfl rfl rfl (Nat.le_of_ble_eq_true rfl) ⟨rfl, rfl⟩ ⟨by decide, by decide⟩ ⟨by decide, by decide⟩ d_X11_grow_121 ?_
    refine j_aload_n rfl d_X11_grow_124 rfl ?_
    refine j_geti fl_Model_349 tg_483 d_X11_grow_125 ?_
    exact j_iret d_X11_grow_128 rfl rfl ⟨rfl, rfl⟩
  · refine j_aload_n rfl d_X11_grow_113 rfl ?_
    refine j_bind (fun r22 h23 => ?_)
    refine j_callV (y := y_X11_steps) (I' := i_X11_steps) (avs := []) (c := 483) (st := []) (c_X11_steps G M0 r22 h23) cs_Model_411 wd_1388 wd_1390 ws_58 tg_483 rfl rfl rfl (Nat.le_of_ble_eq_true rfl) ⟨rfl, rfl⟩ ⟨by decide, by decide⟩ ⟨by decide, by decide⟩ d_X11_grow_114 ?_
    refine j_goto (tgt := 106) d_X11_grow_117 (by decide) ?_
    exact j_wk [true, false, false] rfl rfl (hrec_106 r22)
def f_X11_grow_106 (M0 : tp_M) : Option (Int × tp_M) := tp_lp (σ := tp_M) (fun rec_ u => f_X11_grow_106B (fun M0' => rec_ M0') u) tp_N M0
set_option maxHeartbeats 4000000 in
set_option maxRecDepth 100000 in
theorem T_X11_grow_106 (G : tp_G) (M0 : tp_M) : tp_J i_X11_grow (tp_rm 10) G 0 0 o_X11_grow tp_NC (tp_st M0) 0 0 [some (.inr (.inr 483)), none, none] 106 [] (f_X11_grow_106 M0) := by
  unfold f_X11_grow_106
  exact j_lp (σ := tp_M) (n' := fun _ => tp_NC) (g' := fun u => tp_st u) (k' := fun _ => 0) (q' := fun _ => 0) (lv' := fun u => [some (.inr (.inr 483)), none, none]) (fun rec_ hrec u => T_X11_grow_106B G (fun M0' => rec_ M0') (fun M0' => hrec M0') u) tp_N M0
def f_X11_grow_22B (x1 : Int) (rec_22 : Int → tp_M → Option (Int × tp_M)) (x2 : Int) (M0 : tp_M) : Option (Int × tp_M) :=
  if 9 ≤ x2 then
    (f_X11_degreeOf x1 M0).bind fun r8 =>
    tp_mp (tp_up M0 483 20 r8) fun M10 =>
    tp_mp (tp_up M10 483 18 1) fun M11 =>
    tp_mp (tp_up M11 483 21 0) fun M12 =>
    tp_mp (tp_up M12 483 22 0) fun M13 =>
    tp_mp (tp_up M13 483 23 0) fun M14 =>
    tp_mp (tp_up M14 483 61 0) fun M15 =>
    if (0 : Int) ≤ 0 ∧ (0 : Int) < 8 then
      tp_mp (tp_up M15 528 0 0) fun M16 =>
      if (0 : Int) ≤ 0 ∧ (0 : Int) < 8 then
        tp_mp (tp_up M16 529 0 0) fun M17 =>
        if (0 : Int) ≤ 0 ∧ (0 : Int) < 8 then
          tp_mp (tp_up M17 530 0 0) fun M18 =>
          f_X11_grow_106 M18 else none else none else none
  else
    (f_X11_coefficient x1 x2 M0).bind fun r24 =>
    (f_X11_number r24 M0).bind fun r26 =>
    if 0 ≤ x2 ∧ x2 < 9 then
      tp_mp (tp_up M0 495 x2 r26) fun M28 =>
      tp_lt (tp_w (x2 + 1)) fun y29 =>
      rec_22 y29 M28 else none
set_option maxHeartbeats 4000000 in
set_option maxRecDepth 100000 in
theorem T_X11_grow_22B (G : tp_G) (x1 : Int) (rec_22 : Int → tp_M → Option (Int × tp_M)) (hrec_22 : ∀ (x2' : Int) (M' : tp_M), tp_J i_X11_grow (tp_rm 10) G 0 0 o_X11_grow tp_NC (tp_st M') 0 0 [some (.inr (.inr 483)), some (.inl x1), some (.inl (x2'))] 22 [] (rec_22 x2' M')) (x2 : Int) (M0 : tp_M) : tp_J i_X11_grow (tp_rm 10) G 0 0 o_X11_grow tp_NC (tp_st M0) 0 0 [some (.inr (.inr 483)), some (.inl x1), some (.inl x2)] 22 [] (f_X11_grow_22B x1 rec_22 x2 M0) := by
  unfold f_X11_grow_22B
  refine j_iload_n rfl d_X11_grow_22 rfl ?_
  refine j_bipush ⟨by decide, by decide⟩ (by decide +kernel) d_X11_grow_23 ?_
  refine j_icmp_ge (tgt := 51) d_X11_grow_25 (by decide) (fun h7 => ?_) (fun h7 => ?_)
  · refine j_aload_n rfl d_X11_grow_51 rfl ?_
    refine j_aload_n rfl d_X11_grow_52 rfl ?_
    refine j_iload_n rfl d_X11_grow_53 rfl ?_
    refine j_bind (fun r8 h9 => ?_)
    refine j_callV (y := y_X11_degreeOf) (I' := i_X11_degreeOf) (avs := [.inl x1]) (c := 483) (st := [.inr (.inr 483)]) (c_X11_degreeOf G x1 M0 r8 h9) cs_Model_187 wd_1290 wd_1292 ws_45 tg_483 rfl rfl rfl (Nat.le_of_ble_eq_true rfl) ⟨rfl, rfl⟩ ⟨by decide, by decide⟩ ⟨by decide, by decide⟩ d_X11_grow_54 ?_
    refine j_put (z := 0) (v := r8) fl_Model_408 (by decide) tg_483 (pf_11_20 _) pt_11 d_X11_grow_57 (fun M10 hM10 => ?_)
    refine j_aload_n rfl d_X11_grow_60 rfl ?_
    refine j_iconst ⟨by decide, by decide⟩ d_X11_grow_61 ?_
    refine j_put (z := 0) (v := 1) fl_Model_179 (by decide) tg_483 (pf_11_18 _ (Or.inr rfl)) pt_11 d_X11_grow_62 (fun M11 hM11 => ?_)
    refine j_aload_n rfl d_X11_grow_65 rfl ?_
    refine j_iconst ⟨by decide, by decide⟩ d_X11_grow_66 ?_
    refine j_put (z := 0) (v := 0) fl_Model_372 (by decide) tg_483 (pf_11_21 _) pt_11 d_X11_grow_67 (fun M12 hM12 => ?_)
    refine j_aload_n rfl d_X11_grow_70 rfl ?_
    refine j_iconst ⟨by decide, by decide⟩ d_X11_grow_71 ?_
    refine j_put (z := 0) (v := 0) fl_Model_325 (by decide) tg_483 (pf_11_22 _) pt_11 d_X11_grow_72 (fun M13 hM13 => ?_)
    refine j_aload_n rfl d_X11_grow_75 rfl ?_
    refine j_iconst ⟨by decide, by decide⟩ d_X11_grow_76 ?_
    refine j_put (z := 0) (v := 0) fl_Model_349 (by decide) tg_483 (pf_11_23 _) pt_11 d_X11_grow_77 (fun M14 hM14 => ?_)
    refine j_aload_n rfl d_X11_grow_80 rfl ?_
    refine j_iconst ⟨by decide, by decide⟩ d_X11_grow_81 ?_
    refine j_put (z := 0) (v := 0) fl_Model_378 (by decide) tg_483 (pf_11_61 _) pt_11 d_X11_grow_82 (fun M15 hM15 => ?_)
    refine j_aload_n rfl d_X11_grow_85 rfl ?_
    refine j_getr fl_Model_143 tg_483 rv_483_58 d_X11_grow_86 ?_
    refine j_iconst ⟨by decide, by decide⟩ d_X11_grow_89 ?_
    refine j_iconst ⟨by decide, by decide⟩ d_X11_grow_90 ?_
    refine j_iast tg_528 al_528 d_X11_grow_91 (fun M16 hM16 => ?_)
    refine j_aload_n rfl d_X11_grow_92 rfl ?_
    refine j_getr fl_Model_146 tg_483 rv_483_59 d_X11_grow_93 ?_
    refine j_iconst ⟨by decide, by decide⟩ d_X11_grow_96 ?_
    refine j_iconst ⟨by decide, by decide⟩ d_X11_grow_97 ?_
    refine j_iast tg_529 al_529 d_X11_grow_98 (fun M17 hM17 => ?_)
    refine j_aload_n rfl d_X11_grow_99 rfl ?_
    refine j_getr fl_Model_149 tg_483 rv_483_60 d_X11_grow_100 ?_
    refine j_iconst ⟨by decide, by decide⟩ d_X11_grow_103 ?_
    refine j_iconst ⟨by decide, by decide⟩ d_X11_grow_104 ?_
    refine j_iast tg_530 al_530 d_X11_grow_105 (fun M18 hM18 => ?_)
    exact j_wk [true, false, false] rfl rfl (T_X11_grow_106 G M18)
  · refine j_aload_n rfl d_X11_grow_28 rfl ?_
    refine j_getr fl_Model_44 tg_483 rv_483_19 d_X11_grow_29 ?_
    refine j_iload_n rfl d_X11_grow_32 rfl ?_
    refine j_aload_n rfl d_X11_grow_33 rfl ?_
    refine j_aload_n rfl d_X11_grow_34 rfl ?_
    refine j_iload_n rfl d_X11_grow_35 rfl ?_
    refine j_iload_n rfl d_X11_grow_36 rfl ?_
    refine j_bind (fun r24 h25 => ?_)
    refine j_callV (y := y_X11_coefficient) (I' := i_X11_coefficient) (avs := [.inl x1, .inl x2]) (c := 483) (st := [.inr (.inr 483), .inl x2, .inr (.inr 495)]) (c_X11_coefficient G x1 x2 M0 r24 h25) cs_Model_183 wd_1294 wd_1296 ws_46 tg_483 rfl rfl rfl (Nat.le_of_ble_eq_true rfl) ⟨rfl, rfl⟩ ⟨by decide, by decide⟩ ⟨by decide, by decide⟩ d_X11_grow_37 ?_
    refine j_i2l d_X11_grow_40 ?_
    refine j_bind (fun r26 h27 => ?_)
    refine j_callV (y := y_X11_number) (I' := i_X11_number) (avs := [.inr (.inl r24)]) (c := 483) (st := [.inl x2, .inr (.inr 495)]) (c_X11_number G r24 M0 r26 h27) cs_Model_257 wd_1338 wd_1340 ws_48 tg_483 rfl rfl rfl (Nat.le_of_ble_eq_true rfl) ⟨rfl, rfl⟩ ⟨by decide, by decide⟩ ⟨by decide, by decide⟩ d_X11_grow_41 ?_
    refine j_last tg_495 al_495 d_X11_grow_44 (fun M28 hM28 => ?_)
    refine j_iincN (lv' := fun y29 => [some (.inr (.inr 483)), some (.inl x1), some (.inl y29)]) d_X11_grow_45 rfl (Nat.le_of_ble_eq_true rfl) (fun _ => rfl) (fun y29 hy29 => ?_)
    refine j_goto (tgt := 22) d_X11_grow_48 (by decide) ?_
    exact j_wk [true, true, true] rfl rfl (hrec_22 y29 M28)
def f_X11_grow_22 (x1 : Int) (x2 : Int) (M0 : tp_M) : Option (Int × tp_M) := tp_lp (σ := Int × tp_M) (fun rec_ u => f_X11_grow_22B x1 (fun x2' M0' => rec_ (x2', M0')) u.1 u.2) tp_N (x2, M0)
set_option maxHeartbeats 4000000 in
set_option maxRecDepth 100000 in
theorem T_X11_grow_22 (G : tp_G) (x1 : Int) (x2 : Int) (M0 : tp_M) : tp_J i_X11_grow (tp_rm 10) G 0 0 o_X11_grow tp_NC (tp_st M0) 0 0 [some (.inr (.inr 483)), some (.inl x1), some (.inl x2)] 22 [] (f_X11_grow_22 x1 x2 M0) := by
  unfold f_X11_grow_22
  exact j_lp (σ := Int × tp_M) (n' := fun _ => tp_NC) (g' := fun u => tp_st u.2) (k' := fun _ => 0) (q' := fun _ => 0) (lv' := fun u => [some (.inr (.inr 483)), some (.inl x1), some (.inl u.1)]) (fun rec_ hrec u => T_X11_grow_22B G x1 (fun x2' M0' => rec_ (x2', M0')) (fun x2' M0' => hrec (x2', M0')) u.1 u.2) tp_N (x2, M0)
def f_X11_grow (a0 : Int) (M0 : tp_M) : Option (Int × tp_M) :=
  (f_X11_isSlot a0 M0).bind fun r1 =>
  if ¬ r1 = 0 then
    (f_X11_isMonic a0 M0).bind fun r4 =>
    if ¬ r4 = 0 then
      f_X11_grow_22 a0 0 M0
    else
      some ((-3), M0)
  else
    some ((-1), M0)
set_option maxHeartbeats 4000000 in
set_option maxRecDepth 100000 in
theorem T_X11_grow (G : tp_G) (a0 : Int) (M0 : tp_M) : tp_J i_X11_grow (tp_rm 10) G 0 0 o_X11_grow tp_NC (tp_st M0) 0 0 [some (.inr (.inr 483)), some (.inl a0), none] 0 [] (f_X11_grow a0 M0) := by
  unfold f_X11_grow
  refine j_iload_n rfl d_X11_grow_0 rfl ?_
  refine j_bind (fun r1 h2 => ?_)
  refine j_callS (y := y_X11_isSlot) (I' := i_X11_isSlot) (avs := [.inl a0]) (st := []) (c_X11_isSlot G a0 M0 r1 h2) cs_Model_231 wd_1250 wd_1251 rfl rfl (Nat.le_of_ble_eq_true rfl) ⟨rfl, rfl⟩ ⟨by decide, by decide⟩ ⟨by decide, by decide⟩ d_X11_grow_1 ?_
  refine j_if_ne (tgt := 9) d_X11_grow_4 (by decide) (fun h3 => ?_) (fun h3 => ?_)
  · refine j_aload_n rfl d_X11_grow_9 rfl ?_
    refine j_iload_n rfl d_X11_grow_10 rfl ?_
    refine j_bind (fun r4 h5 => ?_)
    refine j_callV (y := y_X11_isMonic) (I' := i_X11_isMonic) (avs := [.inl a0]) (c := 483) (st := []) (c_X11_isMonic G a0 M0 r4 h5) cs_Model_248 wd_1314 wd_1316 ws_47 tg_483 rfl rfl rfl (Nat.le_of_ble_eq_true rfl) ⟨rfl, rfl⟩ ⟨by decide, by decide⟩ ⟨by decide, by decide⟩ d_X11_grow_11 ?_
    refine j_if_ne (tgt := 20) d_X11_grow_14 (by decide) (fun h6 => ?_) (fun h6 => ?_)
    · refine j_iconst ⟨by decide, by decide⟩ d_X11_grow_20 ?_
      refine j_istore_n (lv' := [some (.inr (.inr 483)), some (.inl a0), some (.inl 0)]) rfl d_X11_grow_21 (Nat.le_of_ble_eq_true rfl) rfl ?_
      exact j_wk [true, true, true] rfl rfl (T_X11_grow_22 G a0 0 M0)
    · refine j_bipush ⟨by decide, by decide⟩ (by decide +kernel) d_X11_grow_17 ?_
      exact j_iret d_X11_grow_19 rfl rfl ⟨rfl, rfl⟩
  · refine j_iconst ⟨by decide, by decide⟩ d_X11_grow_7 ?_
    exact j_iret d_X11_grow_8 rfl rfl ⟨rfl, rfl⟩
set_option maxHeartbeats 4000000 in
set_option maxRecDepth 100000 in
theorem c_X11_grow (G : tp_G) (a0 : Int) (M0 : tp_M) (r : Int × tp_M) (h : f_X11_grow a0 M0 = some r) (l : Launch) : Met l y_X11_grow (tp_ws y_X11_grow i_X11_grow) (tp_rm 10) (tp_Pc G [.inr (.inr 483), .inl a0] tp_NC (tp_st M0)) (tp_Q G (o_X11_grow r)) 0 0 (tp_A G) :=
  tp_met (I := i_X11_grow) (y := y_X11_grow) (by decide +kernel) (Eq.refl "TypesAtPrimeModel") (Eq.refl "grow") (lv := [some (.inr (.inr 483)), some (.inl a0), none]) rfl (Nat.le_of_ble_eq_true rfl) (T_X11_grow G a0 M0) h l
def y_X11_asked : MethodName := ⟨"TypesAtPrimeModel", "asked", "(I)I"⟩
abbrev i_X11_asked : tp_I := (prog_13_method_70_code, "TypesAtPrimeModel", (some .int), 5, "asked")
abbrev o_X11_asked (M : tp_M) : Int → tp_O := fun r => (some (.inl r), tp_NC, tp_st M)
theorem d_X11_asked_0 : decode prog_13_method_70_code 0 = .ok (.iconst 0, 1) := by decide +kernel
theorem d_X11_asked_1 : decode prog_13_method_70_code 1 = .ok (.istore_n 2, 1) := by decide +kernel
theorem d_X11_asked_2 : decode prog_13_method_70_code 2 = .ok (.iconst 0, 1) := by decide +kernel
theorem d_X11_asked_3 : decode prog_13_method_70_code 3 = .ok (.istore_n 3, 1) := by decide +kernel
theorem d_X11_asked_4 : decode prog_13_method_70_code 4 = .ok (.iload_n 3, 1) := by decide +kernel
theorem d_X11_asked_5 : decode prog_13_method_70_code 5 = .ok (.aload_n 0, 1) := by decide +kernel
theorem d_X11_asked_6 : decode prog_13_method_70_code 6 = .ok (.getfield 349, 3) := by decide +kernel
theorem d_X11_asked_9 : decode prog_13_method_70_code 9 = .ok (.if_icmp .ge 89, 3) := by decide +kernel
theorem d_X11_asked_12 : decode prog_13_method_70_code 12 = .ok (.aload_n 0, 1) := by decide +kernel
theorem d_X11_asked_13 : decode prog_13_method_70_code 13 = .ok (.getfield 107, 3) := by decide +kernel
theorem d_X11_asked_16 : decode prog_13_method_70_code 16 = .ok (.iload_n 3, 1) := by decide +kernel
theorem d_X11_asked_17 : decode prog_13_method_70_code 17 = .ok (.iaload, 1) := by decide +kernel
theorem d_X11_asked_18 : decode prog_13_method_70_code 18 = .ok (.ifCond .eq 13, 3) := by decide +kernel
theorem d_X11_asked_21 : decode prog_13_method_70_code 21 = .ok (.aload_n 0, 1) := by decide +kernel
theorem d_X11_asked_22 : decode prog_13_method_70_code 22 = .ok (.getfield 107, 3) := by decide +kernel
theorem d_X11_asked_25 : decode prog_13_method_70_code 25 = .ok (.iload_n 3, 1) := by decide +kernel
theorem d_X11_asked_26 : decode prog_13_method_70_code 26 = .ok (.iaload, 1) := by decide +kernel
theorem d_X11_asked_27 : decode prog_13_method_70_code 27 = .ok (.iconst 1, 1) := by decide +kernel
theorem d_X11_asked_28 : decode prog_13_method_70_code 28 = .ok (.if_icmp .ne 7, 3) := by decide +kernel
theorem d_X11_asked_31 : decode prog_13_method_70_code 31 = .ok (.iconst 1, 1) := by decide +kernel
theorem d_X11_asked_32 : decode prog_13_method_70_code 32 = .ok (.goto 4, 3) := by decide +kernel
theorem d_X11_asked_35 : decode prog_13_method_70_code 35 = .ok (.iconst 0, 1) := by decide +kernel
theorem d_X11_asked_36 : decode prog_13_method_70_code 36 = .ok (.istore 4, 2) := by decide +kernel
theorem d_X11_asked_38 : decode prog_13_method_70_code 38 = .ok (.iload_n 2, 1) := by decide +kernel
theorem d_X11_asked_39 : decode prog_13_method_70_code 39 = .ok (.iload_n 1, 1) := by decide +kernel
theorem d_X11_asked_40 : decode prog_13_method_70_code 40 = .ok (.iconst 3, 1) := by decide +kernel
theorem d_X11_asked_41 : decode prog_13_method_70_code 41 = .ok (.if_icmp .ne 17, 3) := by decide +kernel
theorem d_X11_asked_44 : decode prog_13_method_70_code 44 = .ok (.iload 4, 2) := by decide +kernel
theorem d_X11_asked_46 : decode prog_13_method_70_code 46 = .ok (.ifCond .ne 12, 3) := by decide +kernel
theorem d_X11_asked_49 : decode prog_13_method_70_code 49 = .ok (.aload_n 0, 1) := by decide +kernel
theorem d_X11_asked_50 : decode prog_13_method_70_code 50 = .ok (.getfield 116, 3) := by decide +kernel
theorem d_X11_asked_53 : decode prog_13_method_70_code 53 = .ok (.iload_n 3, 1) := by decide +kernel
theorem d_X11_asked_54 : decode prog_13_method_70_code 54 = .ok (.iaload, 1) := by decide +kernel
theorem d_X11_asked_55 : decode prog_13_method_70_code 55 = .ok (.goto 4, 3) := by decide +kernel
theorem d_X11_asked_58 : decode prog_13_method_70_code 58 = .ok (.iconst 0, 1) := by decide +kernel
theorem d_X11_asked_59 : decode prog_13_method_70_code 59 = .ok (.iadd, 1) := by decide +kernel
theorem d_X11_asked_60 : decode prog_13_method_70_code 60 = .ok (.istore_n 2, 1) := by decide +kernel
theorem d_X11_asked_61 : decode prog_13_method_70_code 61 = .ok (.iload_n 1, 1) := by decide +kernel
theorem d_X11_asked_62 : decode prog_13_method_70_code 62 = .ok (.iconst 4, 1) := by decide +kernel
theorem d_X11_asked_63 : decode prog_13_method_70_code 63 = .ok (.if_icmp .ne 27, 3) := by decide +kernel
theorem d_X11_asked_66 : decode prog_13_method_70_code 66 = .ok (.iload 4, 2) := by decide +kernel
theorem d_X11_asked_68 : decode prog_13_method_70_code 68 = .ok (.ifCond .eq 22, 3) := by decide +kernel
theorem d_X11_asked_71 : decode prog_13_method_70_code 71 = .ok (.aload_n 0, 1) := by decide +kernel
theorem d_X11_asked_72 : decode prog_13_method_70_code 72 = .ok (.getfield 110, 3) := by decide +kernel
theorem d_X11_asked_75 : decode prog_13_method_70_code 75 = .ok (.iload_n 3, 1) := by decide +kernel
theorem d_X11_asked_76 : decode prog_13_method_70_code 76 = .ok (.iaload, 1) := by decide +kernel
theorem d_X11_asked_77 : decode prog_13_method_70_code 77 = .ok (.iload_n 2, 1) := by decide +kernel
theorem d_X11_asked_78 : decode prog_13_method_70_code 78 = .ok (.if_icmp .le 12, 3) := by decide +kernel
theorem d_X11_asked_81 : decode prog_13_method_70_code 81 = .ok (.aload_n 0, 1) := by decide +kernel
theorem d_X11_asked_82 : decode prog_13_method_70_code 82 = .ok (.getfield 110, 3) := by decide +kernel
theorem d_X11_asked_85 : decode prog_13_method_70_code 85 = .ok (.iload_n 3, 1) := by decide +kernel
theorem d_X11_asked_86 : decode prog_13_method_70_code 86 = .ok (.iaload, 1) := by decide +kernel
theorem d_X11_asked_87 : decode prog_13_method_70_code 87 = .ok (.goto 4, 3) := by decide +kernel
theorem d_X11_asked_90 : decode prog_13_method_70_code 90 = .ok (.iload_n 2, 1) := by decide +kernel
theorem d_X11_asked_91 : decode prog_13_method_70_code 91 = .ok (.istore_n 2, 1) := by decide +kernel
theorem d_X11_asked_92 : decode prog_13_method_70_code 92 = .ok (.iinc 3 1, 3) := by decide +kernel
theorem d_X11_asked_95 : decode prog_13_method_70_code 95 = .ok (.goto (-91), 3) := by decide +kernel
theorem d_X11_asked_98 : decode prog_13_method_70_code 98 = .ok (.iconst 0, 1) := by decide +kernel
theorem d_X11_asked_99 : decode prog_13_method_70_code 99 = .ok (.istore_n 3, 1) := by decide +kernel
theorem d_X11_asked_100 : decode prog_13_method_70_code 100 = .ok (.iload_n 3, 1) := by decide +kernel
theorem d_X11_asked_101 : decode prog_13_method_70_code 101 = .ok (.aload_n 0, 1) := by decide +kernel
theorem d_X11_asked_102 : decode prog_13_method_70_code 102 = .ok (.getfield 372, 3) := by decide +kernel
theorem d_X11_asked_105 : decode prog_13_method_70_code 105 = .ok (.if_icmp .ge 53, 3) := by decide +kernel
theorem d_X11_asked_108 : decode prog_13_method_70_code 108 = .ok (.iload_n 2, 1) := by decide +kernel
theorem d_X11_asked_109 : decode prog_13_method_70_code 109 = .ok (.iload_n 1, 1) := by decide +kernel
theorem d_X11_asked_110 : decode prog_13_method_70_code 110 = .ok (.iconst 2, 1) := by decide +kernel
theorem d_X11_asked_111 : decode prog_13_method_70_code 111 = .ok (.if_icmp .ne 12, 3) := by decide +kernel
theorem d_X11_asked_114 : decode prog_13_method_70_code 114 = .ok (.aload_n 0, 1) := by decide +kernel
theorem d_X11_asked_115 : decode prog_13_method_70_code 115 = .ok (.getfield 65, 3) := by decide +kernel
theorem d_X11_asked_118 : decode prog_13_method_70_code 118 = .ok (.iload_n 3, 1) := by decide +kernel
theorem d_X11_asked_119 : decode prog_13_method_70_code 119 = .ok (.iaload, 1) := by decide +kernel
theorem d_X11_asked_120 : decode prog_13_method_70_code 120 = .ok (.goto 4, 3) := by decide +kernel
theorem d_X11_asked_123 : decode prog_13_method_70_code 123 = .ok (.iconst 0, 1) := by decide +kernel
theorem d_X11_asked_124 : decode prog_13_method_70_code 124 = .ok (.iadd, 1) := by decide +kernel
theorem d_X11_asked_125 : decode prog_13_method_70_code 125 = .ok (.istore_n 2, 1) := by decide +kernel
theorem d_X11_asked_126 : decode prog_13_method_70_code 126 = .ok (.iload_n 1, 1) := by decide +kernel
theorem d_X11_asked_127 : decode prog_13_method_70_code 127 = .ok (.iconst 5, 1) := by decide +kernel
theorem d_X11_asked_128 : decode prog_13_method_70_code 128 = .ok (.if_icmp .ne 22, 3) := by decide +kernel
theorem d_X11_asked_131 : decode prog_13_method_70_code 131 = .ok (.aload_n 0, 1) := by decide +kernel
theorem d_X11_asked_132 : decode prog_13_method_70_code 132 = .ok (.getfield 47, 3) := by decide +kernel
theorem d_X11_asked_135 : decode prog_13_method_70_code 135 = .ok (.iload_n 3, 1) := by decide +kernel
theorem d_X11_asked_136 : decode prog_13_method_70_code 136 = .ok (.iaload, 1) := by decide +kernel
theorem d_X11_asked_137 : decode prog_13_method_70_code 137 = .ok (.iload_n 2, 1) := by decide +kernel
theorem d_X11_asked_138 : decode prog_13_method_70_code 138 = .ok (.if_icmp .le 12, 3) := by decide +kernel
theorem d_X11_asked_141 : decode prog_13_method_70_code 141 = .ok (.aload_n 0, 1) := by decide +kernel
theorem d_X11_asked_142 : decode prog_13_method_70_code 142 = .ok (.getfield 47, 3) := by decide +kernel
theorem d_X11_asked_145 : decode prog_13_method_70_code 145 = .ok (.iload_n 3, 1) := by decide +kernel
theorem d_X11_asked_146 : decode prog_13_method_70_code 146 = .ok (.iaload, 1) := by decide +kernel
theorem d_X11_asked_147 : decode prog_13_method_70_code 147 = .ok (.goto 4, 3) := by decide +kernel
theorem d_X11_asked_150 : decode prog_13_method_70_code 150 = .ok (.iload_n 2, 1) := by decide +kernel
theorem d_X11_asked_151 : decode prog_13_method_70_code 151 = .ok (.istore_n 2, 1) := by decide +kernel
theorem d_X11_asked_152 : decode prog_13_method_70_code 152 = .ok (.iinc 3 1, 3) := by decide +kernel
theorem d_X11_asked_155 : decode prog_13_method_70_code 155 = .ok (.goto (-55), 3) := by decide +kernel
theorem d_X11_asked_158 : decode prog_13_method_70_code 158 = .ok (.iload_n 1, 1) := by decide +kernel
theorem d_X11_asked_159 : decode prog_13_method_70_code 159 = .ok (.ifCond .ne 10, 3) := by decide +kernel
theorem d_X11_asked_162 : decode prog_13_method_70_code 162 = .ok (.aload_n 0, 1) := by decide +kernel
theorem d_X11_asked_163 : decode prog_13_method_70_code 163 = .ok (.getfield 372, 3) := by decide +kernel
theorem d_X11_asked_166 : decode prog_13_method_70_code 166 = .ok (.goto 42, 3) := by decide +kernel
theorem d_X11_asked_169 : decode prog_13_method_70_code 169 = .ok (.iload_n 1, 1) := by decide +kernel
theorem d_X11_asked_170 : decode prog_13_method_70_code 170 = .ok (.iconst 1, 1) := by decide +kernel
theorem d_X11_asked_171 : decode prog_13_method_70_code 171 = .ok (.if_icmp .ne 10, 3) := by decide +kernel
theorem d_X11_asked_174 : decode prog_13_method_70_code 174 = .ok (.aload_n 0, 1) := by decide +kernel
theorem d_X11_asked_175 : decode prog_13_method_70_code 175 = .ok (.getfield 349, 3) := by decide +kernel
theorem d_X11_asked_178 : decode prog_13_method_70_code 178 = .ok (.goto 30, 3) := by decide +kernel
theorem d_X11_asked_181 : decode prog_13_method_70_code 181 = .ok (.iload_n 1, 1) := by decide +kernel
theorem d_X11_asked_182 : decode prog_13_method_70_code 182 = .ok (.bipush 6, 2) := by decide +kernel
theorem d_X11_asked_184 : decode prog_13_method_70_code 184 = .ok (.if_icmp .ne 10, 3) := by decide +kernel
theorem d_X11_asked_187 : decode prog_13_method_70_code 187 = .ok (.aload_n 0, 1) := by decide +kernel
theorem d_X11_asked_188 : decode prog_13_method_70_code 188 = .ok (.getfield 399, 3) := by decide +kernel
theorem d_X11_asked_191 : decode prog_13_method_70_code 191 = .ok (.goto 17, 3) := by decide +kernel
theorem d_X11_asked_194 : decode prog_13_method_70_code 194 = .ok (.iload_n 1, 1) := by decide +kernel
theorem d_X11_asked_195 : decode prog_13_method_70_code 195 = .ok (.bipush 7, 2) := by decide +kernel
theorem d_X11_asked_197 : decode prog_13_method_70_code 197 = .ok (.if_icmp .ne 10, 3) := by decide +kernel
theorem d_X11_asked_200 : decode prog_13_method_70_code 200 = .ok (.aload_n 0, 1) := by decide +kernel
theorem d_X11_asked_201 : decode prog_13_method_70_code 201 = .ok (.getfield 408, 3) := by decide +kernel
theorem d_X11_asked_204 : decode prog_13_method_70_code 204 = .ok (.goto 4, 3) := by decide +kernel
theorem d_X11_asked_207 : decode prog_13_method_70_code 207 = .ok (.iload_n 2, 1) := by decide +kernel
theorem d_X11_asked_208 : decode prog_13_method_70_code 208 = .ok (.ireturn, 1) := by decide +kernel
def f_X11_asked_151 (rec_100 : Int → Int → Option (Int)) (x1 : Int) (x3 : Int) (s0 : Int) (M0 : tp_M) : Option (Int) :=
  tp_lt (tp_w (x3 + 1)) fun y10 =>
  rec_100 s0 y10
set_option maxHeartbeats 4000000 in
set_option maxRecDepth 100000 in
theorem T_X11_asked_151 (G : tp_G) (rec_100 : Int → Int → Option (Int)) (x1 : Int) (x3 : Int) (s0 : Int) (M0 : tp_M) (hrec_100 : ∀ (x2' x3' : Int), tp_J i_X11_asked (tp_rm 0) G 0 0 (o_X11_asked M0) tp_NC (tp_st M0) 0 0 [some (.inr (.inr 483)), some (.inl x1), some (.inl (x2')), some (.inl (x3')), none] 100 [] (rec_100 x2' x3')) : tp_J i_X11_asked (tp_rm 0) G 0 0 (o_X11_asked M0) tp_NC (tp_st M0) 0 0 [some (.inr (.inr 483)), some (.inl x1), none, some (.inl x3), none] 151 [.inl s0] (f_X11_asked_151 rec_100 x1 x3 s0 M0) := by
  unfold f_X11_asked_151
  refine j_istore_n (lv' := [some (.inr (.inr 483)), some (.inl x1), some (.inl s0), some (.inl x3), none]) rfl d_X11_asked_151 (Nat.le_of_ble_eq_true rfl) rfl ?_
  refine j_iincN (lv' := fun y10 => [some (.inr (.inr 483)), some (.inl x1), some (.inl s0), some (.inl y10), none]) d_X11_asked_152 rfl (Nat.le_of_ble_eq_true rfl) (fun _ => rfl) (fun y10 hy10 => ?_)
  refine j_goto (tgt := 100) d_X11_asked_155 (by decide) ?_
  exact j_wk [true, true, true, true, false] rfl rfl (hrec_100 s0 y10)
def f_X11_asked_150 (rec_100 : Int → Int → Option (Int)) (x1 : Int) (x2 : Int) (x3 : Int) (M0 : tp_M) : Option (Int) :=
  f_X11_asked_151 rec_100 x1 x3 x2 M0
set_option maxHeartbeats 4000000 in
set_option maxRecDepth 100000 in
theorem T_X11_asked_150 (G : tp_G) (rec_100 : Int → Int → Option (Int)) (x1 : Int) (x2 : Int) (x3 : Int) (M0 : tp_M) (hrec_100 : ∀ (x2' x3' : Int), tp_J i_X11_asked (tp_rm 0) G 0 0 (o_X11_asked M0) tp_NC (tp_st M0) 0 0 [some (.inr (.inr 483)), some (.inl x1), some (.inl (x2')), some (.inl (x3')), none] 100 [] (rec_100 x2' x3')) : tp_J i_X11_asked (tp_rm 0) G 0 0 (o_X11_asked M0) tp_NC (tp_st M0) 0 0 [some (.inr (.inr 483)), some (.inl x1), some (.inl x2), some (.inl x3), none] 150 [] (f_X11_asked_150 rec_100 x1 x2 x3 M0) := by
  unfold f_X11_asked_150
  refine j_iload_n rfl d_X11_asked_150 rfl ?_
  exact j_wk [true, true, false, true, false] rfl rfl (T_X11_asked_151 G rec_100 x1 x3 x2 M0 hrec_100)
def f_X11_asked_124 (rec_100 : Int → Int → Option (Int)) (x1 : Int) (x3 : Int) (s0 : Int) (s1 : Int) (M0 : tp_M) : Option (Int) :=
  tp_lt ((tp_w (s1 + s0))) fun y8 =>
  if ¬ x1 = 5 then
    f_X11_asked_150 rec_100 x1 y8 x3 M0
  else
    if 0 ≤ x3 ∧ x3 < 40 then
      if (M0 496 x3) ≤ y8 then
        f_X11_asked_150 rec_100 x1 y8 x3 M0
      else
        if 0 ≤ x3 ∧ x3 < 40 then
          f_X11_asked_151 rec_100 x1 x3 (M0 496 x3) M0 else none else none
set_option maxHeartbeats 4000000 in
set_option maxRecDepth 100000 in
theorem T_X11_asked_124 (G : tp_G) (rec_100 : Int → Int → Option (Int)) (x1 : Int) (x3 : Int) (s0 : Int) (s1 : Int) (M0 : tp_M) (hrec_100 : ∀ (x2' x3' : Int), tp_J i_X11_asked (tp_rm 0) G 0 0 (o_X11_asked M0) tp_NC (tp_st M0) 0 0 [some (.inr (.inr 483)), some (.inl x1), some (.inl (x2')), some (.inl (x3')), none] 100 [] (rec_100 x2' x3')) : tp_J i_X11_asked (tp_rm 0) G 0 0 (o_X11_asked M0) tp_NC (tp_st M0) 0 0 [some (.inr (.inr 483)), some (.inl x1), none, some (.inl x3), none] 124 [.inl s0, .inl s1] (f_X11_asked_124 rec_100 x1 x3 s0 s1 M0) := by
  unfold f_X11_asked_124
  refine j_iadd d_X11_asked_124 ?_
  refine j_nmI (fun y8 hy8 => ?_)
  refine j_istore_n (lv' := [some (.inr (.inr 483)), some (.inl x1), some (.inl y8), some (.inl x3), none]) rfl d_X11_asked_125 (Nat.le_of_ble_eq_true rfl) rfl ?_
  refine j_iload_n rfl d_X11_asked_126 rfl ?_
  refine j_iconst ⟨by decide, by decide⟩ d_X11_asked_127 ?_
  refine j_icmp_ne (tgt := 150) d_X11_asked_128 (by decide) (fun h9 => ?_) (fun h9 => ?_)
  · exact j_wk [true, true, true, true, false] rfl rfl (T_X11_asked_150 G rec_100 x1 y8 x3 M0 hrec_100)
  · refine j_aload_n rfl d_X11_asked_131 rfl ?_
    refine j_getr fl_Model_47 tg_483 rv_483_24 d_X11_asked_132 ?_
    refine j_iload_n rfl d_X11_asked_135 rfl ?_
    refine j_iald tg_496 al_496 d_X11_asked_136 ?_
    refine j_iload_n rfl d_X11_asked_137 rfl ?_
    refine j_icmp_le (tgt := 150) d_X11_asked_138 (by decide) (fun h11 => ?_) (fun h11 => ?_)
    · exact j_wk [true, true, true, true, false] rfl rfl (T_X11_asked_150 G rec_100 x1 y8 x3 M0 hrec_100)
    · refine j_aload_n rfl d_X11_asked_141 rfl ?_
      refine j_getr fl_Model_47 tg_483 rv_483_24 d_X11_asked_142 ?_
      refine j_iload_n rfl d_X11_asked_145 rfl ?_
      refine j_iald tg_496 al_496 d_X11_asked_146 ?_
      refine j_goto (tgt := 151) d_X11_asked_147 (by decide) ?_
      exact j_wk [true, true, false, true, false] rfl rfl (T_X11_asked_151 G rec_100 x1 x3 (M0 496 x3) M0 hrec_100)
def f_X11_asked_100B (x1 : Int) (M0 : tp_M) (rec_100 : Int → Int → Option (Int)) (x2 : Int) (x3 : Int) : Option (Int) :=
  if (M0 483 21) ≤ x3 then
    if ¬ x1 = 0 then
      if ¬ x1 = 1 then
        if ¬ x1 = 6 then
          if ¬ x1 = 7 then
            some x2
          else
            some (M0 483 20)
        else
          some (M0 483 63)
      else
        some (M0 483 23)
    else
      some (M0 483 21)
  else
    if ¬ x1 = 2 then
      f_X11_asked_124 rec_100 x1 x3 0 x2 M0
    else
      if 0 ≤ x3 ∧ x3 < 40 then
        f_X11_asked_124 rec_100 x1 x3 (M0 502 x3) x2 M0 else none
set_option maxHeartbeats 4000000 in
set_option maxRecDepth 100000 in
theorem T_X11_asked_100B (G : tp_G) (x1 : Int) (M0 : tp_M) (rec_100 : Int → Int → Option (Int)) (hrec_100 : ∀ (x2' x3' : Int), tp_J i_X11_asked (tp_rm 0) G 0 0 (o_X11_asked M0) tp_NC (tp_st M0) 0 0 [some (.inr (.inr 483)), some (.inl x1), some (.inl (x2')), some (.inl (x3')), none] 100 [] (rec_100 x2' x3')) (x2 : Int) (x3 : Int) : tp_J i_X11_asked (tp_rm 0) G 0 0 (o_X11_asked M0) tp_NC (tp_st M0) 0 0 [some (.inr (.inr 483)), some (.inl x1), some (.inl x2), some (.inl x3), none] 100 [] (f_X11_asked_100B x1 M0 rec_100 x2 x3) := by
  unfold f_X11_asked_100B
  refine j_iload_n rfl d_X11_asked_100 rfl ?_
  refine j_aload_n rfl d_X11_asked_101 rfl ?_
  refine j_geti fl_Model_372 tg_483 d_X11_asked_102 ?_
  refine j_icmp_ge (tgt := 158) d_X11_asked_105 (by decide) (fun h2 => ?_) (fun h2 => ?_)
  · refine j_iload_n rfl d_X11_asked_158 rfl ?_
    refine j_if_ne (tgt := 169) d_X11_asked_159 (by decide) (fun h3 => ?_) (fun h3 => ?_)
    · refine j_iload_n rfl d_X11_asked_169 rfl ?_
      refine j_iconst ⟨by decide, by decide⟩ d_X11_asked_170 ?_
      refine j_icmp_ne (tgt := 181) d_X11_asked_171 (by decide) (fun h4 => ?_) (fun h4 => ?_)
      · refine j_iload_n rfl d_X11_asked_181 rfl ?_
        refine j_bipush ⟨by decide, by decide⟩ (by decide +kernel) d_X11_asked_182 ?_
        refine j_icmp_ne (tgt := 194) d_X11_asked_184 (by decide) (fun h5 => ?_) (fun h5 => ?_)
        · refine j_iload_n rfl d_X11_asked_194 rfl ?_
          refine j_bipush ⟨by decide, by decide⟩ (by decide +kernel) d_X11_asked_195 ?_
          refine j_icmp_ne (tgt := 207) d_X11_asked_197 (by decide) (fun h6 => ?_) (fun h6 => ?_)
          · refine j_iload_n rfl d_X11_asked_207 rfl ?_
            exact j_iret d_X11_asked_208 rfl rfl ⟨rfl, rfl⟩
          · refine j_aload_n rfl d_X11_asked_200 rfl ?_
            refine j_geti fl_Model_408 tg_483 d_X11_asked_201 ?_
            refine j_goto (tgt := 208) d_X11_asked_204 (by decide) ?_
            exact j_iret d_X11_asked_208 rfl rfl ⟨rfl, rfl⟩
        · refine j_aload_n rfl d_X11_asked_187 rfl ?_
          refine j_geti fl_Model_399 tg_483 d_X11_asked_188 ?_
          refine j_goto (tgt := 208) d_X11_asked_191 (by decide) ?_
          exact j_iret d_X11_asked_208 rfl rfl ⟨rfl, rfl⟩
      · refine j_aload_n rfl d_X11_asked_174 rfl ?_
        refine j_geti fl_Model_349 tg_483 d_X11_asked_175 ?_
        refine j_goto (tgt := 208) d_X11_asked_178 (by decide) ?_
        exact j_iret d_X11_asked_208 rfl rfl ⟨rfl, rfl⟩
    · refine j_aload_n rfl d_X11_asked_162 rfl ?_
      refine j_geti fl_Model_372 tg_483 d_X11_asked_163 ?_
      refine j_goto (tgt := 208) d_X11_asked_166 (by decide) ?_
      exact j_iret d_X11_asked_208 rfl rfl ⟨rfl, rfl⟩
  · refine j_iload_n rfl d_X11_asked_108 rfl ?_
    refine j_iload_n rfl d_X11_asked_109 rfl ?_
    refine j_iconst ⟨by decide, by decide⟩ d_X11_asked_110 ?_
    refine j_icmp_ne (tgt := 123) d_X11_asked_111 (by decide) (fun h7 => ?_) (fun h7 => ?_)
    · refine j_iconst ⟨by decide, by decide⟩ d_X11_asked_123 ?_
      exact j_wk [true, true, false, true, false] rfl rfl (T_X11_asked_124 G rec_100 x1 x3 0 x2 M0 hrec_100)
    · refine j_aload_n rfl d_X11_asked_114 rfl ?_
      refine j_getr fl_Model_65 tg_483 rv_483_30 d_X11_asked_115 ?_
      refine j_iload_n rfl d_X11_asked_118 rfl ?_
      refine j_iald tg_502 al_502 d_X11_asked_119 ?_
      refine j_goto (tgt := 124) d_X11_asked_120 (by decide) ?_
      exact j_wk [true, true, false, true, false] rfl rfl (T_X11_asked_124 G rec_100 x1 x3 (M0 502 x3) x2 M0 hrec_100)
def f_X11_asked_100 (x1 : Int) (x2 : Int) (x3 : Int) (M0 : tp_M) : Option (Int) := tp_lp (σ := Int × Int) (fun rec_ u => f_X11_asked_100B x1 M0 (fun x2' x3' => rec_ (x2', x3')) u.1 u.2) tp_N (x2, x3)
set_option maxHeartbeats 4000000 in
set_option maxRecDepth 100000 in
theorem T_X11_asked_100 (G : tp_G) (x1 : Int) (x2 : Int) (x3 : Int) (M0 : tp_M) : tp_J i_X11_asked (tp_rm 0) G 0 0 (o_X11_asked M0) tp_NC (tp_st M0) 0 0 [some (.inr (.inr 483)), some (.inl x1), some (.inl x2), some (.inl x3), none] 100 [] (f_X11_asked_100 x1 x2 x3 M0) := by
  unfold f_X11_asked_100
  exact j_lp (σ := Int × Int) (n' := fun _ => tp_NC) (g' := fun u => tp_st M0) (k' := fun _ => 0) (q' := fun _ => 0) (lv' := fun u => [some (.inr (.inr 483)), some (.inl x1), some (.inl u.1), some (.inl u.2), none]) (fun rec_ hrec u => T_X11_asked_100B G x1 M0 (fun x2' x3' => rec_ (x2', x3')) (fun x2' x3' => hrec (x2', x3')) u.1 u.2) tp_N (x2, x3)
def f_X11_asked_91 (rec_4 : Int → Int → Option (Int)) (x1 : Int) (x3 : Int) (s0 : Int) (M0 : tp_M) : Option (Int) :=
  tp_lt (tp_w (x3 + 1)) fun y16 =>
  rec_4 s0 y16
set_option maxHeartbeats 4000000 in
set_option maxRecDepth 100000 in
theorem T_X11_asked_91 (G : tp_G) (rec_4 : Int → Int → Option (Int)) (x1 : Int) (x3 : Int) (s0 : Int) (M0 : tp_M) (hrec_4 : ∀ (x2' x3' : Int), tp_J i_X11_asked (tp_rm 0) G 0 0 (o_X11_asked M0) tp_NC (tp_st M0) 0 0 [some (.inr (.inr 483)), some (.inl x1), some (.inl (x2')), some (.inl (x3')), none] 4 [] (rec_4 x2' x3')) : tp_J i_X11_asked (tp_rm 0) G 0 0 (o_X11_asked M0) tp_NC (tp_st M0) 0 0 [some (.inr (.inr 483)), some (.inl x1), none, some (.inl x3), none] 91 [.inl s0] (f_X11_asked_91 rec_4 x1 x3 s0 M0) := by
  unfold f_X11_asked_91
  refine j_istore_n (lv' := [some (.inr (.inr 483)), some (.inl x1), some (.inl s0), some (.inl x3), none]) rfl d_X11_asked_91 (Nat.le_of_ble_eq_true rfl) rfl ?_
  refine j_iincN (lv' := fun y16 => [some (.inr (.inr 483)), some (.inl x1), some (.inl s0), some (.inl y16), none]) d_X11_asked_92 rfl (Nat.le_of_ble_eq_true rfl) (fun _ => rfl) (fun y16 hy16 => ?_)
  refine j_goto (tgt := 4) d_X11_asked_95 (by decide) ?_
  exact j_wk [true, true, true, true, false] rfl rfl (hrec_4 s0 y16)
def f_X11_asked_90 (rec_4 : Int → Int → Option (Int)) (x1 : Int) (x2 : Int) (x3 : Int) (M0 : tp_M) : Option (Int) :=
  f_X11_asked_91 rec_4 x1 x3 x2 M0
set_option maxHeartbeats 4000000 in
set_option maxRecDepth 100000 in
theorem T_X11_asked_90 (G : tp_G) (rec_4 : Int → Int → Option (Int)) (x1 : Int) (x2 : Int) (x3 : Int) (M0 : tp_M) (hrec_4 : ∀ (x2' x3' : Int), tp_J i_X11_asked (tp_rm 0) G 0 0 (o_X11_asked M0) tp_NC (tp_st M0) 0 0 [some (.inr (.inr 483)), some (.inl x1), some (.inl (x2')), some (.inl (x3')), none] 4 [] (rec_4 x2' x3')) : tp_J i_X11_asked (tp_rm 0) G 0 0 (o_X11_asked M0) tp_NC (tp_st M0) 0 0 [some (.inr (.inr 483)), some (.inl x1), some (.inl x2), some (.inl x3), none] 90 [] (f_X11_asked_90 rec_4 x1 x2 x3 M0) := by
  unfold f_X11_asked_90
  refine j_iload_n rfl d_X11_asked_90 rfl ?_
  exact j_wk [true, true, false, true, false] rfl rfl (T_X11_asked_91 G rec_4 x1 x3 x2 M0 hrec_4)
def f_X11_asked_59 (rec_4 : Int → Int → Option (Int)) (x1 : Int) (x3 : Int) (x4 : Int) (s0 : Int) (s1 : Int) (M0 : tp_M) : Option (Int) :=
  tp_lt ((tp_w (s1 + s0))) fun y14 =>
  if ¬ x1 = 4 then
    f_X11_asked_90 rec_4 x1 y14 x3 M0
  else
    if x4 = 0 then
      f_X11_asked_90 rec_4 x1 y14 x3 M0
    else
      if 0 ≤ x3 ∧ x3 < 20 then
        if (M0 517 x3) ≤ y14 then
          f_X11_asked_90 rec_4 x1 y14 x3 M0
        else
          if 0 ≤ x3 ∧ x3 < 20 then
            f_X11_asked_91 rec_4 x1 x3 (M0 517 x3) M0 else none else none
set_option maxHeartbeats 4000000 in
set_option maxRecDepth 100000 in
theorem T_X11_asked_59 (G : tp_G) (rec_4 : Int → Int → Option (Int)) (x1 : Int) (x3 : Int) (x4 : Int) (s0 : Int) (s1 : Int) (M0 : tp_M) (hrec_4 : ∀ (x2' x3' : Int), tp_J i_X11_asked (tp_rm 0) G 0 0 (o_X11_asked M0) tp_NC (tp_st M0) 0 0 [some (.inr (.inr 483)), some (.inl x1), some (.inl (x2')), some (.inl (x3')), none] 4 [] (rec_4 x2' x3')) : tp_J i_X11_asked (tp_rm 0) G 0 0 (o_X11_asked M0) tp_NC (tp_st M0) 0 0 [some (.inr (.inr 483)), some (.inl x1), none, some (.inl x3), some (.inl x4)] 59 [.inl s0, .inl s1] (f_X11_asked_59 rec_4 x1 x3 x4 s0 s1 M0) := by
  unfold f_X11_asked_59
  refine j_iadd d_X11_asked_59 ?_
  refine j_nmI (fun y14 hy14 => ?_)
  refine j_istore_n (lv' := [some (.inr (.inr 483)), some (.inl x1), some (.inl y14), some (.inl x3), some (.inl x4)]) rfl d_X11_asked_60 (Nat.le_of_ble_eq_true rfl) rfl ?_
  refine j_iload_n rfl d_X11_asked_61 rfl ?_
  refine j_iconst ⟨by decide, by decide⟩ d_X11_asked_62 ?_
  refine j_icmp_ne (tgt := 90) d_X11_asked_63 (by decide) (fun h15 => ?_) (fun h15 => ?_)
  · exact j_wk [true, true, true, true, false] rfl rfl (T_X11_asked_90 G rec_4 x1 y14 x3 M0 hrec_4)
  · refine j_iload d_X11_asked_66 rfl ?_
    refine j_if_eq (tgt := 90) d_X11_asked_68 (by decide) (fun h17 => ?_) (fun h17 => ?_)
    · exact j_wk [true, true, true, true, false] rfl rfl (T_X11_asked_90 G rec_4 x1 y14 x3 M0 hrec_4)
    · refine j_aload_n rfl d_X11_asked_71 rfl ?_
      refine j_getr fl_Model_110 tg_483 rv_483_45 d_X11_asked_72 ?_
      refine j_iload_n rfl d_X11_asked_75 rfl ?_
      refine j_iald tg_517 al_517 d_X11_asked_76 ?_
      refine j_iload_n rfl d_X11_asked_77 rfl ?_
      refine j_icmp_le (tgt := 90) d_X11_asked_78 (by decide) (fun h18 => ?_) (fun h18 => ?_)
      · exact j_wk [true, true, true, true, false] rfl rfl (T_X11_asked_90 G rec_4 x1 y14 x3 M0 hrec_4)
      · refine j_aload_n rfl d_X11_asked_81 rfl ?_
        refine j_getr fl_Model_110 tg_483 rv_483_45 d_X11_asked_82 ?_
        refine j_iload_n rfl d_X11_asked_85 rfl ?_
        refine j_iald tg_517 al_517 d_X11_asked_86 ?_
        refine j_goto (tgt := 91) d_X11_asked_87 (by decide) ?_
        exact j_wk [true, true, false, true, false] rfl rfl (T_X11_asked_91 G rec_4 x1 x3 (M0 517 x3) M0 hrec_4)
def f_X11_asked_58 (rec_4 : Int → Int → Option (Int)) (x1 : Int) (x3 : Int) (x4 : Int) (s0 : Int) (M0 : tp_M) : Option (Int) :=
  f_X11_asked_59 rec_4 x1 x3 x4 0 s0 M0
set_option maxHeartbeats 4000000 in
set_option maxRecDepth 100000 in
theorem T_X11_asked_58 (G : tp_G) (rec_4 : Int → Int → Option (Int)) (x1 : Int) (x3 : Int) (x4 : Int) (s0 : Int) (M0 : tp_M) (hrec_4 : ∀ (x2' x3' : Int), tp_J i_X11_asked (tp_rm 0) G 0 0 (o_X11_asked M0) tp_NC (tp_st M0) 0 0 [some (.inr (.inr 483)), some (.inl x1), some (.inl (x2')), some (.inl (x3')), none] 4 [] (rec_4 x2' x3')) : tp_J i_X11_asked (tp_rm 0) G 0 0 (o_X11_asked M0) tp_NC (tp_st M0) 0 0 [some (.inr (.inr 483)), some (.inl x1), none, some (.inl x3), some (.inl x4)] 58 [.inl s0] (f_X11_asked_58 rec_4 x1 x3 x4 s0 M0) := by
  unfold f_X11_asked_58
  refine j_iconst ⟨by decide, by decide⟩ d_X11_asked_58 ?_
  exact j_wk [true, true, false, true, true] rfl rfl (T_X11_asked_59 G rec_4 x1 x3 x4 0 s0 M0 hrec_4)
def f_X11_asked_36 (rec_4 : Int → Int → Option (Int)) (x1 : Int) (x2 : Int) (x3 : Int) (s0 : Int) (M0 : tp_M) : Option (Int) :=
  if ¬ x1 = 3 then
    f_X11_asked_58 rec_4 x1 x3 s0 x2 M0
  else
    if ¬ s0 = 0 then
      f_X11_asked_58 rec_4 x1 x3 s0 x2 M0
    else
      if 0 ≤ x3 ∧ x3 < 20 then
        f_X11_asked_59 rec_4 x1 x3 s0 (M0 519 x3) x2 M0 else none
set_option maxHeartbeats 4000000 in
set_option maxRecDepth 100000 in
theorem T_X11_asked_36 (G : tp_G) (rec_4 : Int → Int → Option (Int)) (x1 : Int) (x2 : Int) (x3 : Int) (s0 : Int) (M0 : tp_M) (hrec_4 : ∀ (x2' x3' : Int), tp_J i_X11_asked (tp_rm 0) G 0 0 (o_X11_asked M0) tp_NC (tp_st M0) 0 0 [some (.inr (.inr 483)), some (.inl x1), some (.inl (x2')), some (.inl (x3')), none] 4 [] (rec_4 x2' x3')) : tp_J i_X11_asked (tp_rm 0) G 0 0 (o_X11_asked M0) tp_NC (tp_st M0) 0 0 [some (.inr (.inr 483)), some (.inl x1), some (.inl x2), some (.inl x3), none] 36 [.inl s0] (f_X11_asked_36 rec_4 x1 x2 x3 s0 M0) := by
  unfold f_X11_asked_36
  refine j_istore (lv' := [some (.inr (.inr 483)), some (.inl x1), some (.inl x2), some (.inl x3), some (.inl s0)]) d_X11_asked_36 (Nat.le_of_ble_eq_true rfl) rfl ?_
  refine j_iload_n rfl d_X11_asked_38 rfl ?_
  refine j_iload_n rfl d_X11_asked_39 rfl ?_
  refine j_iconst ⟨by decide, by decide⟩ d_X11_asked_40 ?_
  refine j_icmp_ne (tgt := 58) d_X11_asked_41 (by decide) (fun h13 => ?_) (fun h13 => ?_)
  · exact j_wk [true, true, false, true, true] rfl rfl (T_X11_asked_58 G rec_4 x1 x3 s0 x2 M0 hrec_4)
  · refine j_iload d_X11_asked_44 rfl ?_
    refine j_if_ne (tgt := 58) d_X11_asked_46 (by decide) (fun h19 => ?_) (fun h19 => ?_)
    · exact j_wk [true, true, false, true, true] rfl rfl (T_X11_asked_58 G rec_4 x1 x3 s0 x2 M0 hrec_4)
    · refine j_aload_n rfl d_X11_asked_49 rfl ?_
      refine j_getr fl_Model_116 tg_483 rv_483_47 d_X11_asked_50 ?_
      refine j_iload_n rfl d_X11_asked_53 rfl ?_
      refine j_iald tg_519 al_519 d_X11_asked_54 ?_
      refine j_goto (tgt := 59) d_X11_asked_55 (by decide) ?_
      exact j_wk [true, true, false, true, true] rfl rfl (T_X11_asked_59 G rec_4 x1 x3 s0 (M0 519 x3) x2 M0 hrec_4)
def f_X11_asked_31 (rec_4 : Int → Int → Option (Int)) (x1 : Int) (x2 : Int) (x3 : Int) (M0 : tp_M) : Option (Int) :=
  f_X11_asked_36 rec_4 x1 x2 x3 1 M0
set_option maxHeartbeats 4000000 in
set_option maxRecDepth 100000 in
theorem T_X11_asked_31 (G : tp_G) (rec_4 : Int → Int → Option (Int)) (x1 : Int) (x2 : Int) (x3 : Int) (M0 : tp_M) (hrec_4 : ∀ (x2' x3' : Int), tp_J i_X11_asked (tp_rm 0) G 0 0 (o_X11_asked M0) tp_NC (tp_st M0) 0 0 [some (.inr (.inr 483)), some (.inl x1), some (.inl (x2')), some (.inl (x3')), none] 4 [] (rec_4 x2' x3')) : tp_J i_X11_asked (tp_rm 0) G 0 0 (o_X11_asked M0) tp_NC (tp_st M0) 0 0 [some (.inr (.inr 483)), some (.inl x1), some (.inl x2), some (.inl x3), none] 31 [] (f_X11_asked_31 rec_4 x1 x2 x3 M0) := by
  unfold f_X11_asked_31
  refine j_iconst ⟨by decide, by decide⟩ d_X11_asked_31 ?_
  refine j_goto (tgt := 36) d_X11_asked_32 (by decide) ?_
  exact j_wk [true, true, true, true, false] rfl rfl (T_X11_asked_36 G rec_4 x1 x2 x3 1 M0 hrec_4)
def f_X11_asked_4B (x1 : Int) (M0 : tp_M) (rec_4 : Int → Int → Option (Int)) (x2 : Int) (x3 : Int) : Option (Int) :=
  if (M0 483 23) ≤ x3 then
    f_X11_asked_100 x1 x2 0 M0
  else
    if 0 ≤ x3 ∧ x3 < 20 then
      if (M0 516 x3) = 0 then
        f_X11_asked_31 rec_4 x1 x2 x3 M0
      else
        if 0 ≤ x3 ∧ x3 < 20 then
          if ¬ (M0 516 x3) = 1 then
            f_X11_asked_36 rec_4 x1 x2 x3 0 M0
          else
            f_X11_asked_31 rec_4 x1 x2 x3 M0 else none else none
set_option maxHeartbeats 4000000 in
set_option maxRecDepth 100000 in
theorem T_X11_asked_4B (G : tp_G) (x1 : Int) (M0 : tp_M) (rec_4 : Int → Int → Option (Int)) (hrec_4 : ∀ (x2' x3' : Int), tp_J i_X11_asked (tp_rm 0) G 0 0 (o_X11_asked M0) tp_NC (tp_st M0) 0 0 [some (.inr (.inr 483)), some (.inl x1), some (.inl (x2')), some (.inl (x3')), none] 4 [] (rec_4 x2' x3')) (x2 : Int) (x3 : Int) : tp_J i_X11_asked (tp_rm 0) G 0 0 (o_X11_asked M0) tp_NC (tp_st M0) 0 0 [some (.inr (.inr 483)), some (.inl x1), some (.inl x2), some (.inl x3), none] 4 [] (f_X11_asked_4B x1 M0 rec_4 x2 x3) := by
  unfold f_X11_asked_4B
  refine j_iload_n rfl d_X11_asked_4 rfl ?_
  refine j_aload_n rfl d_X11_asked_5 rfl ?_
  refine j_geti fl_Model_349 tg_483 d_X11_asked_6 ?_
  refine j_icmp_ge (tgt := 98) d_X11_asked_9 (by decide) (fun h1 => ?_) (fun h1 => ?_)
  · refine j_iconst ⟨by decide, by decide⟩ d_X11_asked_98 ?_
    refine j_istore_n (lv' := [some (.inr (.inr 483)), some (.inl x1), some (.inl x2), some (.inl 0), none]) rfl d_X11_asked_99 (Nat.le_of_ble_eq_true rfl) rfl ?_
    exact j_wk [true, true, true, true, false] rfl rfl (T_X11_asked_100 G x1 x2 0 M0)
  · refine j_aload_n rfl d_X11_asked_12 rfl ?_
    refine j_getr fl_Model_107 tg_483 rv_483_44 d_X11_asked_13 ?_
    refine j_iload_n rfl d_X11_asked_16 rfl ?_
    refine j_iald tg_516 al_516 d_X11_asked_17 ?_
    refine j_if_eq (tgt := 31) d_X11_asked_18 (by decide) (fun h12 => ?_) (fun h12 => ?_)
    · exact j_wk [true, true, true, true, false] rfl rfl (T_X11_asked_31 G rec_4 x1 x2 x3 M0 hrec_4)
    · refine j_aload_n rfl d_X11_asked_21 rfl ?_
      refine j_getr fl_Model_107 tg_483 rv_483_44 d_X11_asked_22 ?_
      refine j_iload_n rfl d_X11_asked_25 rfl ?_
      refine j_iald tg_516 al_516 d_X11_asked_26 ?_
      refine j_iconst ⟨by decide, by decide⟩ d_X11_asked_27 ?_
      refine j_icmp_ne (tgt := 35) d_X11_asked_28 (by decide) (fun h20 => ?_) (fun h20 => ?_)
      · refine j_iconst ⟨by decide, by decide⟩ d_X11_asked_35 ?_
        exact j_wk [true, true, true, true, false] rfl rfl (T_X11_asked_36 G rec_4 x1 x2 x3 0 M0 hrec_4)
      · exact j_wk [true, true, true, true, false] rfl rfl (T_X11_asked_31 G rec_4 x1 x2 x3 M0 hrec_4)
def f_X11_asked_4 (x1 : Int) (x2 : Int) (x3 : Int) (M0 : tp_M) : Option (Int) := tp_lp (σ := Int × Int) (fun rec_ u => f_X11_asked_4B x1 M0 (fun x2' x3' => rec_ (x2', x3')) u.1 u.2) tp_N (x2, x3)
set_option maxHeartbeats 4000000 in
set_option maxRecDepth 100000 in
theorem T_X11_asked_4 (G : tp_G) (x1 : Int) (x2 : Int) (x3 : Int) (M0 : tp_M) : tp_J i_X11_asked (tp_rm 0) G 0 0 (o_X11_asked M0) tp_NC (tp_st M0) 0 0 [some (.inr (.inr 483)), some (.inl x1), some (.inl x2), some (.inl x3), none] 4 [] (f_X11_asked_4 x1 x2 x3 M0) := by
  unfold f_X11_asked_4
  exact j_lp (σ := Int × Int) (n' := fun _ => tp_NC) (g' := fun u => tp_st M0) (k' := fun _ => 0) (q' := fun _ => 0) (lv' := fun u => [some (.inr (.inr 483)), some (.inl x1), some (.inl u.1), some (.inl u.2), none]) (fun rec_ hrec u => T_X11_asked_4B G x1 M0 (fun x2' x3' => rec_ (x2', x3')) (fun x2' x3' => hrec (x2', x3')) u.1 u.2) tp_N (x2, x3)
def f_X11_asked (a0 : Int) (M0 : tp_M) : Option (Int) :=
  f_X11_asked_4 a0 0 0 M0
set_option maxHeartbeats 4000000 in
set_option maxRecDepth 100000 in
theorem T_X11_asked (G : tp_G) (a0 : Int) (M0 : tp_M) : tp_J i_X11_asked (tp_rm 0) G 0 0 (o_X11_asked M0) tp_NC (tp_st M0) 0 0 [some (.inr (.inr 483)), some (.inl a0), none, none, none] 0 [] (f_X11_asked a0 M0) := by
  unfold f_X11_asked
  refine j_iconst ⟨by decide, by decide⟩ d_X11_asked_0 ?_
  refine j_istore_n (lv' := [some (.inr (.inr 483)), some (.inl a0), some (.inl 0), none, none]) rfl d_X11_asked_1 (Nat.le_of_ble_eq_true rfl) rfl ?_
  refine j_iconst ⟨by decide, by decide⟩ d_X11_asked_2 ?_
  refine j_istore_n (lv' := [some (.inr (.inr 483)), some (.inl a0), some (.inl 0), some (.inl 0), none]) rfl d_X11_asked_3 (Nat.le_of_ble_eq_true rfl) rfl ?_
  exact j_wk [true, true, true, true, false] rfl rfl (T_X11_asked_4 G a0 0 0 M0)
set_option maxHeartbeats 4000000 in
set_option maxRecDepth 100000 in
theorem c_X11_asked (G : tp_G) (a0 : Int) (M0 : tp_M) (r : Int) (h : f_X11_asked a0 M0 = some r) (l : Launch) : Met l y_X11_asked (tp_ws y_X11_asked i_X11_asked) (tp_rm 0) (tp_Pc G [.inr (.inr 483), .inl a0] tp_NC (tp_st M0)) (tp_Q G ((o_X11_asked M0) r)) 0 0 (tp_A G) :=
  tp_met (I := i_X11_asked) (y := y_X11_asked) (by decide +kernel) (Eq.refl "TypesAtPrimeModel") (Eq.refl "asked") (lv := [some (.inr (.inr 483)), some (.inl a0), none, none, none]) rfl (Nat.le_of_ble_eq_true rfl) (T_X11_asked G a0 M0) h l
theorem wd_1507 : (.constantLong "TypesAtPrimeModel" 417 7 : Cond) ∈ lw_tbl := List.mem_append_right _ (List.mem_of_getElem? (i := 1507) (by decide +kernel))
theorem wd_1511 : (.code ⟨"TypesAtPrimeModel", "asked", "(I)I"⟩ prog_13_method_70_code 5 (some .int) : Cond) ∈ lw_tbl := List.mem_append_right _ (List.mem_of_getElem? (i := 1511) (by decide +kernel))
theorem cs_Model_419 : tp_CS "TypesAtPrimeModel" 419 y_X11_asked i_X11_asked 1 := ⟨wd_1511, wd_12, by decide, by decide, by decide +kernel⟩
theorem wd_1508 : (.methodLink "TypesAtPrimeModel" 419 ⟨"TypesAtPrimeModel", "asked", "(I)I"⟩ : Cond) ∈ lw_tbl := List.mem_append_right _ (List.mem_of_getElem? (i := 1508) (by decide +kernel))
theorem wd_1510 : (.instanceMethod ⟨"TypesAtPrimeModel", "asked", "(I)I"⟩ : Cond) ∈ lw_tbl := List.mem_append_right _ (List.mem_of_getElem? (i := 1510) (by decide +kernel))
theorem ws_86 : (.selects "TypesAtPrimeModel" ⟨"TypesAtPrimeModel", "asked", "(I)I"⟩ ⟨"TypesAtPrimeModel", "asked", "(I)I"⟩ : Cond) ∈ lw_tbl := List.mem_append_left _ (List.mem_of_getElem? (i := 86) (by decide +kernel))
def y_X11_tree : MethodName := ⟨"TypesAtPrimeModel", "tree", "(I)I"⟩
abbrev i_X11_tree : tp_I := (prog_13_method_71_code, "TypesAtPrimeModel", (some .int), 2, "tree")
abbrev o_X11_tree (M : tp_M) : Int → tp_O := fun r => (some (.inl r), tp_NC, tp_st M)
theorem d_X11_tree_0 : decode prog_13_method_71_code 0 = .ok (.iload_n 1, 1) := by decide +kernel
theorem d_X11_tree_1 : decode prog_13_method_71_code 1 = .ok (.i2l, 1) := by decide +kernel
theorem d_X11_tree_2 : decode prog_13_method_71_code 2 = .ok (.lconst 0, 1) := by decide +kernel
theorem d_X11_tree_3 : decode prog_13_method_71_code 3 = .ok (.ldc2_w 417, 3) := by decide +kernel
theorem d_X11_tree_6 : decode prog_13_method_71_code 6 = .ok (.invokestatic 193, 3) := by decide +kernel
theorem d_X11_tree_9 : decode prog_13_method_71_code 9 = .ok (.ifCond .ne 5, 3) := by decide +kernel
theorem d_X11_tree_12 : decode prog_13_method_71_code 12 = .ok (.iconst (-1), 1) := by decide +kernel
theorem d_X11_tree_13 : decode prog_13_method_71_code 13 = .ok (.ireturn, 1) := by decide +kernel
theorem d_X11_tree_14 : decode prog_13_method_71_code 14 = .ok (.aload_n 0, 1) := by decide +kernel
theorem d_X11_tree_15 : decode prog_13_method_71_code 15 = .ok (.getfield 179, 3) := by decide +kernel
theorem d_X11_tree_18 : decode prog_13_method_71_code 18 = .ok (.ifCond .eq 11, 3) := by decide +kernel
theorem d_X11_tree_21 : decode prog_13_method_71_code 21 = .ok (.aload_n 0, 1) := by decide +kernel
theorem d_X11_tree_22 : decode prog_13_method_71_code 22 = .ok (.iload_n 1, 1) := by decide +kernel
theorem d_X11_tree_23 : decode prog_13_method_71_code 23 = .ok (.invokevirtual 419, 3) := by decide +kernel
theorem d_X11_tree_26 : decode prog_13_method_71_code 26 = .ok (.goto 5, 3) := by decide +kernel
theorem d_X11_tree_29 : decode prog_13_method_71_code 29 = .ok (.bipush (-2), 2) := by decide +kernel
theorem d_X11_tree_31 : decode prog_13_method_71_code 31 = .ok (.ireturn, 1) := by decide +kernel
def f_X11_tree (a0 : Int) (M0 : tp_M) : Option (Int) :=
  (f_X11_in a0 0 7 M0).bind fun r1 =>
  if ¬ r1 = 0 then
    if (M0 483 18) = 0 then
      some (-2)
    else
      (f_X11_asked a0 M0).bind fun r5 =>
      some r5
  else
    some (-1)
set_option maxHeartbeats 4000000 in
set_option maxRecDepth 100000 in
theorem T_X11_tree (G : tp_G) (a0 : Int) (M0 : tp_M) : tp_J i_X11_tree (tp_rm 1) G 0 0 (o_X11_tree M0) tp_NC (tp_st M0) 0 0 [some (.inr (.inr 483)), some (.inl a0)] 0 [] (f_X11_tree a0 M0) := by
  unfold f_X11_tree
  refine j_iload_n rfl d_X11_tree_0 rfl ?_
  refine j_i2l d_X11_tree_1 ?_
  refine j_lconst (x := 0) ⟨by decide, by decide⟩ (by decide +kernel) d_X11_tree_2 ?_
  refine j_ldc2 (x := 7) ⟨by decide, by decide⟩ (show Cond.constantLong _ _ _ ∈ lw_tbl from wd_1507) d_X11_tree_3 ?_
  refine j_bind (fun r1 h2 => ?_)
  refine j_callS (y := y_X11_in) (I' := i_X11_in) (avs := [.inr (.inl a0), .inr (.inl 0), .inr (.inl 7)]) (st := []) (c_X11_in G a0 0 7 M0 r1 h2) cs_Model_193 wd_1239 wd_1240 rfl rfl (Nat.le_of_ble_eq_true rfl) ⟨rfl, rfl⟩ ⟨by decide, by decide⟩ ⟨by decide, by decide⟩ d_X11_tree_6 ?_
  refine j_if_ne (tgt := 14) d_X11_tree_9 (by decide) (fun h3 => ?_) (fun h3 => ?_)
  · refine j_aload_n rfl d_X11_tree_14 rfl ?_
    refine j_geti fl_Model_179 tg_483 d_X11_tree_15 ?_
    refine j_if_eq (tgt := 29) d_X11_tree_18 (by decide) (fun h4 => ?_) (fun h4 => ?_)
    · refine j_bipush ⟨by decide, by decide⟩ (by decide +kernel) d_X11_tree_29 ?_
      exact j_iret d_X11_tree_31 rfl rfl ⟨rfl, rfl⟩
    · refine j_aload_n rfl d_X11_tree_21 rfl ?_
      refine j_iload_n rfl d_X11_tree_22 rfl ?_
      refine j_bind (fun r5 h6 => ?_)
      refine j_callV (y := y_X11_asked) (I' := i_X11_asked) (avs := [.inl a0]) (c := 483) (st := []) (c_X11_asked G a0 M0 r5 h6) cs_Model_419 wd_1508 wd_1510 ws_86 tg_483 rfl rfl rfl (Nat.le_of_ble_eq_true rfl) ⟨rfl, rfl⟩ ⟨by decide, by decide⟩ ⟨by decide, by decide⟩ d_X11_tree_23 ?_
      refine j_goto (tgt := 31) d_X11_tree_26 (by decide) ?_
      exact j_iret d_X11_tree_31 rfl rfl ⟨rfl, rfl⟩
  · refine j_iconst ⟨by decide, by decide⟩ d_X11_tree_12 ?_
    exact j_iret d_X11_tree_13 rfl rfl ⟨rfl, rfl⟩
set_option maxHeartbeats 4000000 in
set_option maxRecDepth 100000 in
theorem c_X11_tree (G : tp_G) (a0 : Int) (M0 : tp_M) (r : Int) (h : f_X11_tree a0 M0 = some r) (l : Launch) : Met l y_X11_tree (tp_ws y_X11_tree i_X11_tree) (tp_rm 1) (tp_Pc G [.inr (.inr 483), .inl a0] tp_NC (tp_st M0)) (tp_Q G ((o_X11_tree M0) r)) 0 0 (tp_A G) :=
  tp_met (I := i_X11_tree) (y := y_X11_tree) (by decide +kernel) (Eq.refl "TypesAtPrimeModel") (Eq.refl "tree") (lv := [some (.inr (.inr 483)), some (.inl a0)]) rfl (Nat.le_of_ble_eq_true rfl) (T_X11_tree G a0 M0) h l
def y_X11_isKnot : MethodName := ⟨"TypesAtPrimeModel", "isKnot", "(I)Z"⟩
abbrev i_X11_isKnot : tp_I := (prog_13_method_72_code, "TypesAtPrimeModel", (some .boolean), 2, "isKnot")
abbrev o_X11_isKnot (M : tp_M) : Int → tp_O := fun r => (some (.inl r), tp_NC, tp_st M)
theorem d_X11_isKnot_0 : decode prog_13_method_72_code 0 = .ok (.aload_n 0, 1) := by decide +kernel
theorem d_X11_isKnot_1 : decode prog_13_method_72_code 1 = .ok (.getfield 179, 3) := by decide +kernel
theorem d_X11_isKnot_4 : decode prog_13_method_72_code 4 = .ok (.ifCond .eq 23, 3) := by decide +kernel
theorem d_X11_isKnot_7 : decode prog_13_method_72_code 7 = .ok (.iload_n 1, 1) := by decide +kernel
theorem d_X11_isKnot_8 : decode prog_13_method_72_code 8 = .ok (.i2l, 1) := by decide +kernel
theorem d_X11_isKnot_9 : decode prog_13_method_72_code 9 = .ok (.lconst 0, 1) := by decide +kernel
theorem d_X11_isKnot_10 : decode prog_13_method_72_code 10 = .ok (.aload_n 0, 1) := by decide +kernel
theorem d_X11_isKnot_11 : decode prog_13_method_72_code 11 = .ok (.getfield 372, 3) := by decide +kernel
theorem d_X11_isKnot_14 : decode prog_13_method_72_code 14 = .ok (.iconst 1, 1) := by decide +kernel
theorem d_X11_isKnot_15 : decode prog_13_method_72_code 15 = .ok (.isub, 1) := by decide +kernel
theorem d_X11_isKnot_16 : decode prog_13_method_72_code 16 = .ok (.i2l, 1) := by decide +kernel
theorem d_X11_isKnot_17 : decode prog_13_method_72_code 17 = .ok (.invokestatic 193, 3) := by decide +kernel
theorem d_X11_isKnot_20 : decode prog_13_method_72_code 20 = .ok (.ifCond .eq 7, 3) := by decide +kernel
theorem d_X11_isKnot_23 : decode prog_13_method_72_code 23 = .ok (.iconst 1, 1) := by decide +kernel
theorem d_X11_isKnot_24 : decode prog_13_method_72_code 24 = .ok (.goto 4, 3) := by decide +kernel
theorem d_X11_isKnot_27 : decode prog_13_method_72_code 27 = .ok (.iconst 0, 1) := by decide +kernel
theorem d_X11_isKnot_28 : decode prog_13_method_72_code 28 = .ok (.ireturn, 1) := by decide +kernel
def f_X11_isKnot (a0 : Int) (M0 : tp_M) : Option (Int) :=
  if (M0 483 18) = 0 then
    some 0
  else
    (f_X11_in a0 0 (tp_w ((M0 483 21) - 1)) M0).bind fun r2 =>
    if r2 = 0 then
      some 0
    else
      some 1
set_option maxHeartbeats 4000000 in
set_option maxRecDepth 100000 in
theorem T_X11_isKnot (G : tp_G) (a0 : Int) (M0 : tp_M) : tp_J i_X11_isKnot (tp_rm 1) G 0 0 (o_X11_isKnot M0) tp_NC (tp_st M0) 0 0 [some (.inr (.inr 483)), some (.inl a0)] 0 [] (f_X11_isKnot a0 M0) := by
  unfold f_X11_isKnot
  refine j_aload_n rfl d_X11_isKnot_0 rfl ?_
  refine j_geti fl_Model_179 tg_483 d_X11_isKnot_1 ?_
  refine j_if_eq (tgt := 27) d_X11_isKnot_4 (by decide) (fun h1 => ?_) (fun h1 => ?_)
  · refine j_iconst ⟨by decide, by decide⟩ d_X11_isKnot_27 ?_
    exact j_zret d_X11_isKnot_28 rfl (Or.inl rfl) rfl ⟨rfl, rfl⟩
  · refine j_iload_n rfl d_X11_isKnot_7 rfl ?_
    refine j_i2l d_X11_isKnot_8 ?_
    refine j_lconst (x := 0) ⟨by decide, by decide⟩ (by decide +kernel) d_X11_isKnot_9 ?_
    refine j_aload_n rfl d_X11_isKnot_10 rfl ?_
    refine j_geti fl_Model_372 tg_483 d_X11_isKnot_11 ?_
    refine j_iconst ⟨by decide, by decide⟩ d_X11_isKnot_14 ?_
    refine j_isub d_X11_isKnot_15 ?_
    refine j_i2l d_X11_isKnot_16 ?_
    refine j_bind (fun r2 h3 => ?_)
    refine j_callS (y := y_X11_in) (I' := i_X11_in) (avs := [.inr (.inl a0), .inr (.inl 0), .inr (.inl (tp_w ((M0 483 21) - 1)))]) (st := []) (c_X11_in G a0 0 (tp_w ((M0 483 21) - 1)) M0 r2 h3) cs_Model_193 wd_1239 wd_1240 rfl rfl (Nat.le_of_ble_eq_true rfl) ⟨rfl, rfl⟩ ⟨by decide, by decide⟩ ⟨by decide, by decide⟩ d_X11_isKnot_17 ?_
    refine j_if_eq (tgt := 27) d_X11_isKnot_20 (by decide) (fun h4 => ?_) (fun h4 => ?_)
    · refine j_iconst ⟨by decide, by decide⟩ d_X11_isKnot_27 ?_
      exact j_zret d_X11_isKnot_28 rfl (Or.inl rfl) rfl ⟨rfl, rfl⟩
    · refine j_iconst ⟨by decide, by decide⟩ d_X11_isKnot_23 ?_
      refine j_goto (tgt := 28) d_X11_isKnot_24 (by decide) ?_
      exact j_zret d_X11_isKnot_28 rfl (Or.inr rfl) rfl ⟨rfl, rfl⟩
set_option maxHeartbeats 4000000 in
set_option maxRecDepth 100000 in
theorem c_X11_isKnot (G : tp_G) (a0 : Int) (M0 : tp_M) (r : Int) (h : f_X11_isKnot a0 M0 = some r) (l : Launch) : Met l y_X11_isKnot (tp_ws y_X11_isKnot i_X11_isKnot) (tp_rm 1) (tp_Pc G [.inr (.inr 483), .inl a0] tp_NC (tp_st M0)) (tp_Q G ((o_X11_isKnot M0) r)) 0 0 (tp_A G) :=
  tp_met (I := i_X11_isKnot) (y := y_X11_isKnot) (by decide +kernel) (Eq.refl "TypesAtPrimeModel") (Eq.refl "isKnot") (lv := [some (.inr (.inr 483)), some (.inl a0)]) rfl (Nat.le_of_ble_eq_true rfl) (T_X11_isKnot G a0 M0) h l
theorem wd_1516 : (.constantLong "TypesAtPrimeModel" 422 6 : Cond) ∈ lw_tbl := List.mem_append_right _ (List.mem_of_getElem? (i := 1516) (by decide +kernel))
theorem wd_1520 : (.code ⟨"TypesAtPrimeModel", "isKnot", "(I)Z"⟩ prog_13_method_72_code 2 (some .boolean) : Cond) ∈ lw_tbl := List.mem_append_right _ (List.mem_of_getElem? (i := 1520) (by decide +kernel))
theorem cs_Model_424 : tp_CS "TypesAtPrimeModel" 424 y_X11_isKnot i_X11_isKnot 1 := ⟨wd_1520, wd_12, by decide, by decide, by decide +kernel⟩
theorem wd_1517 : (.methodLink "TypesAtPrimeModel" 424 ⟨"TypesAtPrimeModel", "isKnot", "(I)Z"⟩ : Cond) ∈ lw_tbl := List.mem_append_right _ (List.mem_of_getElem? (i := 1517) (by decide +kernel))
theorem wd_1519 : (.instanceMethod ⟨"TypesAtPrimeModel", "isKnot", "(I)Z"⟩ : Cond) ∈ lw_tbl := List.mem_append_right _ (List.mem_of_getElem? (i := 1519) (by decide +kernel))
theorem ws_87 : (.selects "TypesAtPrimeModel" ⟨"TypesAtPrimeModel", "isKnot", "(I)Z"⟩ ⟨"TypesAtPrimeModel", "isKnot", "(I)Z"⟩ : Cond) ∈ lw_tbl := List.mem_append_left _ (List.mem_of_getElem? (i := 87) (by decide +kernel))
def y_X11_knot : MethodName := ⟨"TypesAtPrimeModel", "knot", "(II)I"⟩
abbrev i_X11_knot : tp_I := (prog_13_method_73_code, "TypesAtPrimeModel", (some .int), 3, "knot")
abbrev o_X11_knot : Int × tp_M → tp_O := fun r => (some (.inl r.1), tp_NC, tp_st r.2)
theorem d_X11_knot_0 : decode prog_13_method_73_code 0 = .ok (.iload_n 2, 1) := by decide +kernel
theorem d_X11_knot_1 : decode prog_13_method_73_code 1 = .ok (.i2l, 1) := by decide +kernel
theorem d_X11_knot_2 : decode prog_13_method_73_code 2 = .ok (.lconst 0, 1) := by decide +kernel
theorem d_X11_knot_3 : decode prog_13_method_73_code 3 = .ok (.ldc2_w 422, 3) := by decide +kernel
theorem d_X11_knot_6 : decode prog_13_method_73_code 6 = .ok (.invokestatic 193, 3) := by decide +kernel
theorem d_X11_knot_9 : decode prog_13_method_73_code 9 = .ok (.ifCond .ne 5, 3) := by decide +kernel
theorem d_X11_knot_12 : decode prog_13_method_73_code 12 = .ok (.iconst (-1), 1) := by decide +kernel
theorem d_X11_knot_13 : decode prog_13_method_73_code 13 = .ok (.ireturn, 1) := by decide +kernel
theorem d_X11_knot_14 : decode prog_13_method_73_code 14 = .ok (.aload_n 0, 1) := by decide +kernel
theorem d_X11_knot_15 : decode prog_13_method_73_code 15 = .ok (.iload_n 1, 1) := by decide +kernel
theorem d_X11_knot_16 : decode prog_13_method_73_code 16 = .ok (.invokevirtual 424, 3) := by decide +kernel
theorem d_X11_knot_19 : decode prog_13_method_73_code 19 = .ok (.ifCond .ne 6, 3) := by decide +kernel
theorem d_X11_knot_22 : decode prog_13_method_73_code 22 = .ok (.bipush (-2), 2) := by decide +kernel
theorem d_X11_knot_24 : decode prog_13_method_73_code 24 = .ok (.ireturn, 1) := by decide +kernel
theorem d_X11_knot_25 : decode prog_13_method_73_code 25 = .ok (.iload_n 2, 1) := by decide +kernel
theorem d_X11_knot_26 : decode prog_13_method_73_code 26 = .ok (.tableswitch 102 0 5 #[38, 45, 52, 67, 74, 81], 38) := by decide +kernel
theorem d_X11_knot_64 : decode prog_13_method_73_code 64 = .ok (.aload_n 0, 1) := by decide +kernel
theorem d_X11_knot_65 : decode prog_13_method_73_code 65 = .ok (.getfield 47, 3) := by decide +kernel
theorem d_X11_knot_68 : decode prog_13_method_73_code 68 = .ok (.iload_n 1, 1) := by decide +kernel
theorem d_X11_knot_69 : decode prog_13_method_73_code 69 = .ok (.iaload, 1) := by decide +kernel
theorem d_X11_knot_70 : decode prog_13_method_73_code 70 = .ok (.ireturn, 1) := by decide +kernel
theorem d_X11_knot_71 : decode prog_13_method_73_code 71 = .ok (.aload_n 0, 1) := by decide +kernel
theorem d_X11_knot_72 : decode prog_13_method_73_code 72 = .ok (.getfield 50, 3) := by decide +kernel
theorem d_X11_knot_75 : decode prog_13_method_73_code 75 = .ok (.iload_n 1, 1) := by decide +kernel
theorem d_X11_knot_76 : decode prog_13_method_73_code 76 = .ok (.iaload, 1) := by decide +kernel
theorem d_X11_knot_77 : decode prog_13_method_73_code 77 = .ok (.ireturn, 1) := by decide +kernel
theorem d_X11_knot_78 : decode prog_13_method_73_code 78 = .ok (.aload_n 0, 1) := by decide +kernel
theorem d_X11_knot_79 : decode prog_13_method_73_code 79 = .ok (.iload_n 1, 1) := by decide +kernel
theorem d_X11_knot_80 : decode prog_13_method_73_code 80 = .ok (.invokevirtual 352, 3) := by decide +kernel
theorem d_X11_knot_83 : decode prog_13_method_73_code 83 = .ok (.aload_n 0, 1) := by decide +kernel
theorem d_X11_knot_84 : decode prog_13_method_73_code 84 = .ok (.getfield 125, 3) := by decide +kernel
theorem d_X11_knot_87 : decode prog_13_method_73_code 87 = .ok (.aload_n 0, 1) := by decide +kernel
theorem d_X11_knot_88 : decode prog_13_method_73_code 88 = .ok (.getfield 300, 3) := by decide +kernel
theorem d_X11_knot_91 : decode prog_13_method_73_code 91 = .ok (.iaload, 1) := by decide +kernel
theorem d_X11_knot_92 : decode prog_13_method_73_code 92 = .ok (.ireturn, 1) := by decide +kernel
theorem d_X11_knot_93 : decode prog_13_method_73_code 93 = .ok (.aload_n 0, 1) := by decide +kernel
theorem d_X11_knot_94 : decode prog_13_method_73_code 94 = .ok (.getfield 59, 3) := by decide +kernel
theorem d_X11_knot_97 : decode prog_13_method_73_code 97 = .ok (.iload_n 1, 1) := by decide +kernel
theorem d_X11_knot_98 : decode prog_13_method_73_code 98 = .ok (.iaload, 1) := by decide +kernel
theorem d_X11_knot_99 : decode prog_13_method_73_code 99 = .ok (.ireturn, 1) := by decide +kernel
theorem d_X11_knot_100 : decode prog_13_method_73_code 100 = .ok (.aload_n 0, 1) := by decide +kernel
theorem d_X11_knot_101 : decode prog_13_method_73_code 101 = .ok (.getfield 65, 3) := by decide +kernel
theorem d_X11_knot_104 : decode prog_13_method_73_code 104 = .ok (.iload_n 1, 1) := by decide +kernel
theorem d_X11_knot_105 : decode prog_13_method_73_code 105 = .ok (.iaload, 1) := by decide +kernel
theorem d_X11_knot_106 : decode prog_13_method_73_code 106 = .ok (.ireturn, 1) := by decide +kernel
theorem d_X11_knot_107 : decode prog_13_method_73_code 107 = .ok (.aload_n 0, 1) := by decide +kernel
theorem d_X11_knot_108 : decode prog_13_method_73_code 108 = .ok (.getfield 53, 3) := by decide +kernel
theorem d_X11_knot_111 : decode prog_13_method_73_code 111 = .ok (.iload_n 1, 1) := by decide +kernel
theorem d_X11_knot_112 : decode prog_13_method_73_code 112 = .ok (.iaload, 1) := by decide +kernel
theorem d_X11_knot_113 : decode prog_13_method_73_code 113 = .ok (.ifCond .ge 8, 3) := by decide +kernel
theorem d_X11_knot_116 : decode prog_13_method_73_code 116 = .ok (.bipush (-2), 2) := by decide +kernel
theorem d_X11_knot_118 : decode prog_13_method_73_code 118 = .ok (.goto 9, 3) := by decide +kernel
theorem d_X11_knot_121 : decode prog_13_method_73_code 121 = .ok (.aload_n 0, 1) := by decide +kernel
theorem d_X11_knot_122 : decode prog_13_method_73_code 122 = .ok (.getfield 53, 3) := by decide +kernel
theorem d_X11_knot_125 : decode prog_13_method_73_code 125 = .ok (.iload_n 1, 1) := by decide +kernel
theorem d_X11_knot_126 : decode prog_13_method_73_code 126 = .ok (.iaload, 1) := by decide +kernel
theorem d_X11_knot_127 : decode prog_13_method_73_code 127 = .ok (.ireturn, 1) := by decide +kernel
theorem d_X11_knot_128 : decode prog_13_method_73_code 128 = .ok (.aload_n 0, 1) := by decide +kernel
theorem d_X11_knot_129 : decode prog_13_method_73_code 129 = .ok (.getfield 62, 3) := by decide +kernel
theorem d_X11_knot_132 : decode prog_13_method_73_code 132 = .ok (.iload_n 1, 1) := by decide +kernel
theorem d_X11_knot_133 : decode prog_13_method_73_code 133 = .ok (.iaload, 1) := by decide +kernel
theorem d_X11_knot_134 : decode prog_13_method_73_code 134 = .ok (.ireturn, 1) := by decide +kernel
def f_X11_knot (a0 : Int) (a1 : Int) (M0 : tp_M) : Option (Int × tp_M) :=
  (f_X11_in a1 0 6 M0).bind fun r1 =>
  if ¬ r1 = 0 then
    (f_X11_isKnot a0 M0).bind fun r4 =>
    if ¬ r4 = 0 then
      if a1 = 0 then
        if 0 ≤ a0 ∧ a0 < 40 then
          some ((M0 496 a0), M0) else none
      else if a1 = 1 then
        if 0 ≤ a0 ∧ a0 < 40 then
          some ((M0 497 a0), M0) else none
      else if a1 = 2 then
        (f_X11_takesKnot a0 M0).bind fun r10 =>
        if 0 ≤ (r10 483 49) ∧ (r10 483 49) < 8 then
          some ((r10 522 (r10 483 49)), r10) else none
      else if a1 = 3 then
        if 0 ≤ a0 ∧ a0 < 40 then
          some ((M0 500 a0), M0) else none
      else if a1 = 4 then
        if 0 ≤ a0 ∧ a0 < 40 then
          some ((M0 502 a0), M0) else none
      else if a1 = 5 then
        if 0 ≤ a0 ∧ a0 < 40 then
          if 0 ≤ (M0 498 a0) then
            if 0 ≤ a0 ∧ a0 < 40 then
              some ((M0 498 a0), M0) else none
          else
            some ((-2), M0) else none
      else 
        if 0 ≤ a0 ∧ a0 < 40 then
          some ((M0 501 a0), M0) else none
    else
      some ((-2), M0)
  else
    some ((-1), M0)
set_option maxHeartbeats 4000000 in
set_option maxRecDepth 100000 in
theorem T_X11_knot (G : tp_G) (a0 : Int) (a1 : Int) (M0 : tp_M) : tp_J i_X11_knot (tp_rm 2) G 0 0 o_X11_knot tp_NC (tp_st M0) 0 0 [some (.inr (.inr 483)), some (.inl a0), some (.inl a1)] 0 [] (f_X11_knot a0 a1 M0) := by
  unfold f_X11_knot
  refine j_iload_n rfl d_X11_knot_0 rfl ?_
  refine j_i2l d_X11_knot_1 ?_
  refine j_lconst (x := 0) ⟨by decide, by decide⟩ (by decide +kernel) d_X11_knot_2 ?_
  refine j_ldc2 (x := 6) ⟨by decide, by decide⟩ (show Cond.constantLong _ _ _ ∈ lw_tbl from wd_1516) d_X11_knot_3 ?_
  refine j_bind (fun r1 h2 => ?_)
  refine j_callS (y := y_X11_in) (I' := i_X11_in) (avs := [.inr (.inl a1), .inr (.inl 0), .inr (.inl 6)]) (st := []) (c_X11_in G a1 0 6 M0 r1 h2) cs_Model_193 wd_1239 wd_1240 rfl rfl (Nat.le_of_ble_eq_true rfl) ⟨rfl, rfl⟩ ⟨by decide, by decide⟩ ⟨by decide, by decide⟩ d_X11_knot_6 ?_
  refine j_if_ne (tgt := 14) d_X11_knot_9 (by decide) (fun h3 => ?_) (fun h3 => ?_)
  · refine j_aload_n rfl d_X11_knot_14 rfl ?_
    refine j_iload_n rfl d_X11_knot_15 rfl ?_
    refine j_bind (fun r4 h5 => ?_)
    refine j_callV (y := y_X11_isKnot) (I' := i_X11_isKnot) (avs := [.inl a0]) (c := 483) (st := []) (c_X11_isKnot G a0 M0 r4 h5) cs_Model_424 wd_1517 wd_1519 ws_87 tg_483 rfl rfl rfl (Nat.le_of_ble_eq_true rfl) ⟨rfl, rfl⟩ ⟨by decide, by decide⟩ ⟨by decide, by decide⟩ d_X11_knot_16 ?_
    refine j_if_ne (tgt := 25) d_X11_knot_19 (by decide) (fun h6 => ?_) (fun h6 => ?_)
    · refine j_iload_n rfl d_X11_knot_25 rfl ?_
      refine tp_ite (fun h7 => ?_) (fun h7 => ?_)
      · refine j_tsin (tgt := 64) d_X11_knot_26 (by omega) (by omega) (off := 38) (by rw [h7]; decide +kernel) (by decide) ?_
        refine j_aload_n rfl d_X11_knot_64 rfl ?_
        refine j_getr fl_Model_47 tg_483 rv_483_24 d_X11_knot_65 ?_
        refine j_iload_n rfl d_X11_knot_68 rfl ?_
        refine j_iald tg_496 al_496 d_X11_knot_69 ?_
        exact j_iret d_X11_knot_70 rfl rfl ⟨rfl, rfl⟩
      refine tp_ite (fun h8 => ?_) (fun h8 => ?_)
      · refine j_tsin (tgt := 71) d_X11_knot_26 (by omega) (by omega) (off := 45) (by rw [h8]; decide +kernel) (by decide) ?_
        refine j_aload_n rfl d_X11_knot_71 rfl ?_
        refine j_getr fl_Model_50 tg_483 rv_483_25 d_X11_knot_72 ?_
        refine j_iload_n rfl d_X11_knot_75 rfl ?_
        refine j_iald tg_497 al_497 d_X11_knot_76 ?_
        exact j_iret d_X11_knot_77 rfl rfl ⟨rfl, rfl⟩
      refine tp_ite (fun h9 => ?_) (fun h9 => ?_)
      · refine j_tsin (tgt := 78) d_X11_knot_26 (by omega) (by omega) (off := 52) (by rw [h9]; decide +kernel) (by decide) ?_
        refine j_aload_n rfl d_X11_knot_78 rfl ?_
        refine j_iload_n rfl d_X11_knot_79 rfl ?_
        refine j_bind (fun r10 h11 => ?_)
        refine j_callV (y := y_X11_takesKnot) (I' := i_X11_takesKnot) (avs := [.inl a0]) (c := 483) (st := []) (c_X11_takesKnot G a0 M0 r10 h11) cs_Model_352 wd_1416 wd_1418 ws_65 tg_483 rfl rfl rfl (Nat.le_of_ble_eq_true rfl) ⟨rfl, rfl⟩ ⟨by decide, by decide⟩ ⟨by decide, by decide⟩ d_X11_knot_80 ?_
        refine j_aload_n rfl d_X11_knot_83 rfl ?_
        refine j_getr fl_Model_125 tg_483 rv_483_51 d_X11_knot_84 ?_
        refine j_aload_n rfl d_X11_knot_87 rfl ?_
        refine j_geti fl_Model_300 tg_483 d_X11_knot_88 ?_
        refine j_iald tg_522 al_522 d_X11_knot_91 ?_
        exact j_iret d_X11_knot_92 rfl rfl ⟨rfl, rfl⟩
      refine tp_ite (fun h12 => ?_) (fun h12 => ?_)
      · refine j_tsin (tgt := 93) d_X11_knot_26 (by omega) (by omega) (off := 67) (by rw [h12]; decide +kernel) (by decide) ?_
        refine j_aload_n rfl d_X11_knot_93 rfl ?_
        refine j_getr fl_Model_59 tg_483 rv_483_28 d_X11_knot_94 ?_
        refine j_iload_n rfl d_X11_knot_97 rfl ?_
        refine j_iald tg_500 al_500 d_X11_knot_98 ?_
        exact j_iret d_X11_knot_99 rfl rfl ⟨rfl, rfl⟩
      refine tp_ite (fun h13 => ?_) (fun h13 => ?_)
      · refine j_tsin (tgt := 100) d_X11_knot_26 (by omega) (by omega) (off := 74) (by rw [h13]; decide +kernel) (by decide) ?_
        refine j_aload_n rfl d_X11_knot_100 rfl ?_
        refine j_getr fl_Model_65 tg_483 rv_483_30 d_X11_knot_101 ?_
        refine j_iload_n rfl d_X11_knot_104 rfl ?_
        refine j_iald tg_502 al_502 d_X11_knot_105 ?_
        exact j_iret d_X11_knot_106 rfl rfl ⟨rfl, rfl⟩
      refine tp_ite (fun h14 => ?_) (fun h14 => ?_)
      · refine j_tsin (tgt := 107) d_X11_knot_26 (by omega) (by omega) (off := 81) (by rw [h14]; decide +kernel) (by decide) ?_
        refine j_aload_n rfl d_X11_knot_107 rfl ?_
        refine j_getr fl_Model_53 tg_483 rv_483_26 d_X11_knot_108 ?_
        refine j_iload_n rfl d_X11_knot_111 rfl ?_
        refine j_iald tg_498 al_498 d_X11_knot_112 ?_
        refine j_if_ge (tgt := 121) d_X11_knot_113 (by decide) (fun h15 => ?_) (fun h15 => ?_)
        · refine j_aload_n rfl d_X11_knot_121 rfl ?_
          refine j_getr fl_Model_53 tg_483 rv_483_26 d_X11_knot_122 ?_
          refine j_iload_n rfl d_X11_knot_125 rfl ?_
          refine j_iald tg_498 al_498 d_X11_knot_126 ?_
          exact j_iret d_X11_knot_127 rfl rfl ⟨rfl, rfl⟩
        · refine j_bipush ⟨by decide, by decide⟩ (by decide +kernel) d_X11_knot_116 ?_
          refine j_goto (tgt := 127) d_X11_knot_118 (by decide) ?_
          exact j_iret d_X11_knot_127 rfl rfl ⟨rfl, rfl⟩
      refine j_tsout (tgt := 128) d_X11_knot_26 (by omega) (by decide) ?_
      refine j_aload_n rfl d_X11_knot_128 rfl ?_
      refine j_getr fl_Model_62 tg_483 rv_483_29 d_X11_knot_129 ?_
      refine j_iload_n rfl d_X11_knot_132 rfl ?_
      refine j_iald tg_501 al_501 d_X11_knot_133 ?_
      exact j_iret d_X11_knot_134 rfl rfl ⟨rfl, rfl⟩
    · refine j_bipush ⟨by decide, by decide⟩ (by decide +kernel) d_X11_knot_22 ?_
      exact j_iret d_X11_knot_24 rfl rfl ⟨rfl, rfl⟩
  · refine j_iconst ⟨by decide, by decide⟩ d_X11_knot_12 ?_
    exact j_iret d_X11_knot_13 rfl rfl ⟨rfl, rfl⟩
set_option maxHeartbeats 4000000 in
set_option maxRecDepth 100000 in
theorem c_X11_knot (G : tp_G) (a0 : Int) (a1 : Int) (M0 : tp_M) (r : Int × tp_M) (h : f_X11_knot a0 a1 M0 = some r) (l : Launch) : Met l y_X11_knot (tp_ws y_X11_knot i_X11_knot) (tp_rm 2) (tp_Pc G [.inr (.inr 483), .inl a0, .inl a1] tp_NC (tp_st M0)) (tp_Q G (o_X11_knot r)) 0 0 (tp_A G) :=
  tp_met (I := i_X11_knot) (y := y_X11_knot) (by decide +kernel) (Eq.refl "TypesAtPrimeModel") (Eq.refl "knot") (lv := [some (.inr (.inr 483)), some (.inl a0), some (.inl a1)]) rfl (Nat.le_of_ble_eq_true rfl) (T_X11_knot G a0 a1 M0) h l
def y_X11_key : MethodName := ⟨"TypesAtPrimeModel", "key", "(II)J"⟩
abbrev i_X11_key : tp_I := (prog_13_method_74_code, "TypesAtPrimeModel", (some .long), 3, "key")
abbrev o_X11_key (M : tp_M) : Int → tp_O := fun r => (some (.inr (.inl r)), tp_NC, tp_st M)
theorem d_X11_key_0 : decode prog_13_method_74_code 0 = .ok (.aload_n 0, 1) := by decide +kernel
theorem d_X11_key_1 : decode prog_13_method_74_code 1 = .ok (.iload_n 1, 1) := by decide +kernel
theorem d_X11_key_2 : decode prog_13_method_74_code 2 = .ok (.invokevirtual 424, 3) := by decide +kernel
theorem d_X11_key_5 : decode prog_13_method_74_code 5 = .ok (.ifCond .eq 24, 3) := by decide +kernel
theorem d_X11_key_8 : decode prog_13_method_74_code 8 = .ok (.iload_n 2, 1) := by decide +kernel
theorem d_X11_key_9 : decode prog_13_method_74_code 9 = .ok (.invokestatic 243, 3) := by decide +kernel
theorem d_X11_key_12 : decode prog_13_method_74_code 12 = .ok (.ifCond .eq 17, 3) := by decide +kernel
theorem d_X11_key_15 : decode prog_13_method_74_code 15 = .ok (.aload_n 0, 1) := by decide +kernel
theorem d_X11_key_16 : decode prog_13_method_74_code 16 = .ok (.getfield 23, 3) := by decide +kernel
theorem d_X11_key_19 : decode prog_13_method_74_code 19 = .ok (.bipush 9, 2) := by decide +kernel
theorem d_X11_key_21 : decode prog_13_method_74_code 21 = .ok (.iload_n 1, 1) := by decide +kernel
theorem d_X11_key_22 : decode prog_13_method_74_code 22 = .ok (.imul, 1) := by decide +kernel
theorem d_X11_key_23 : decode prog_13_method_74_code 23 = .ok (.iload_n 2, 1) := by decide +kernel
theorem d_X11_key_24 : decode prog_13_method_74_code 24 = .ok (.iadd, 1) := by decide +kernel
theorem d_X11_key_25 : decode prog_13_method_74_code 25 = .ok (.laload, 1) := by decide +kernel
theorem d_X11_key_26 : decode prog_13_method_74_code 26 = .ok (.goto 6, 3) := by decide +kernel
theorem d_X11_key_29 : decode prog_13_method_74_code 29 = .ok (.ldc2_w 246, 3) := by decide +kernel
theorem d_X11_key_32 : decode prog_13_method_74_code 32 = .ok (.lreturn, 1) := by decide +kernel
def f_X11_key (a0 : Int) (a1 : Int) (M0 : tp_M) : Option (Int) :=
  (f_X11_isKnot a0 M0).bind fun r1 =>
  if r1 = 0 then
    some (-9223372036854775808)
  else
    (f_X11_isPower a1 M0).bind fun r4 =>
    if r4 = 0 then
      some (-9223372036854775808)
    else
      if 0 ≤ (tp_w ((tp_w (9 * a0)) + a1)) ∧ (tp_w ((tp_w (9 * a0)) + a1)) < 369 then
        some (M0 488 (tp_w ((tp_w (9 * a0)) + a1))) else none
set_option maxHeartbeats 4000000 in
set_option maxRecDepth 100000 in
theorem T_X11_key (G : tp_G) (a0 : Int) (a1 : Int) (M0 : tp_M) : tp_J i_X11_key (tp_rm 2) G 0 0 (o_X11_key M0) tp_NC (tp_st M0) 0 0 [some (.inr (.inr 483)), some (.inl a0), some (.inl a1)] 0 [] (f_X11_key a0 a1 M0) := by
  unfold f_X11_key
  refine j_aload_n rfl d_X11_key_0 rfl ?_
  refine j_iload_n rfl d_X11_key_1 rfl ?_
  refine j_bind (fun r1 h2 => ?_)
  refine j_callV (y := y_X11_isKnot) (I' := i_X11_isKnot) (avs := [.inl a0]) (c := 483) (st := []) (c_X11_isKnot G a0 M0 r1 h2) cs_Model_424 wd_1517 wd_1519 ws_87 tg_483 rfl rfl rfl (Nat.le_of_ble_eq_true rfl) ⟨rfl, rfl⟩ ⟨by decide, by decide⟩ ⟨by decide, by decide⟩ d_X11_key_2 ?_
  refine j_if_eq (tgt := 29) d_X11_key_5 (by decide) (fun h3 => ?_) (fun h3 => ?_)
  · refine j_ldc2 (x := (-9223372036854775808)) ⟨by decide, by decide⟩ (show Cond.constantLong _ _ _ ∈ lw_tbl from wd_1305) d_X11_key_29 ?_
    exact j_lret d_X11_key_32 rfl rfl ⟨rfl, rfl⟩
  · refine j_iload_n rfl d_X11_key_8 rfl ?_
    refine j_bind (fun r4 h5 => ?_)
    refine j_callS (y := y_X11_isPower) (I' := i_X11_isPower) (avs := [.inl a1]) (st := []) (c_X11_isPower G a1 M0 r4 h5) cs_Model_243 wd_1302 wd_1303 rfl rfl (Nat.le_of_ble_eq_true rfl) ⟨rfl, rfl⟩ ⟨by decide, by decide⟩ ⟨by decide, by decide⟩ d_X11_key_9 ?_
    refine j_if_eq (tgt := 29) d_X11_key_12 (by decide) (fun h6 => ?_) (fun h6 => ?_)
    · refine j_ldc2 (x := (-9223372036854775808)) ⟨by decide, by decide⟩ (show Cond.constantLong _ _ _ ∈ lw_tbl from wd_1305) d_X11_key_29 ?_
      exact j_lret d_X11_key_32 rfl rfl ⟨rfl, rfl⟩
    · refine j_aload_n rfl d_X11_key_15 rfl ?_
      refine j_getr fl_Model_23 tg_483 rv_483_9 d_X11_key_16 ?_
      refine j_bipush ⟨by decide, by decide⟩ (by decide +kernel) d_X11_key_19 ?_
      refine j_iload_n rfl d_X11_key_21 rfl ?_
      refine j_imul d_X11_key_22 ?_
      refine j_iload_n rfl d_X11_key_23 rfl ?_
      refine j_iadd d_X11_key_24 ?_
      refine j_lald tg_488 al_488 d_X11_key_25 ?_
      refine j_goto (tgt := 32) d_X11_key_26 (by decide) ?_
      exact j_lret d_X11_key_32 rfl rfl ⟨rfl, rfl⟩
set_option maxHeartbeats 4000000 in
set_option maxRecDepth 100000 in
theorem c_X11_key (G : tp_G) (a0 : Int) (a1 : Int) (M0 : tp_M) (r : Int) (h : f_X11_key a0 a1 M0 = some r) (l : Launch) : Met l y_X11_key (tp_ws y_X11_key i_X11_key) (tp_rm 2) (tp_Pc G [.inr (.inr 483), .inl a0, .inl a1] tp_NC (tp_st M0)) (tp_Q G ((o_X11_key M0) r)) 0 0 (tp_A G) :=
  tp_met (I := i_X11_key) (y := y_X11_key) (by decide +kernel) (Eq.refl "TypesAtPrimeModel") (Eq.refl "key") (lv := [some (.inr (.inr 483)), some (.inl a0), some (.inl a1)]) rfl (Nat.le_of_ble_eq_true rfl) (T_X11_key G a0 a1 M0) h l
def y_X11_point : MethodName := ⟨"TypesAtPrimeModel", "point", "(II)I"⟩
abbrev i_X11_point : tp_I := (prog_13_method_75_code, "TypesAtPrimeModel", (some .int), 3, "point")
abbrev o_X11_point (M : tp_M) : Int → tp_O := fun r => (some (.inl r), tp_NC, tp_st M)
theorem d_X11_point_0 : decode prog_13_method_75_code 0 = .ok (.iload_n 2, 1) := by decide +kernel
theorem d_X11_point_1 : decode prog_13_method_75_code 1 = .ok (.invokestatic 243, 3) := by decide +kernel
theorem d_X11_point_4 : decode prog_13_method_75_code 4 = .ok (.ifCond .ne 5, 3) := by decide +kernel
theorem d_X11_point_7 : decode prog_13_method_75_code 7 = .ok (.iconst (-1), 1) := by decide +kernel
theorem d_X11_point_8 : decode prog_13_method_75_code 8 = .ok (.ireturn, 1) := by decide +kernel
theorem d_X11_point_9 : decode prog_13_method_75_code 9 = .ok (.aload_n 0, 1) := by decide +kernel
theorem d_X11_point_10 : decode prog_13_method_75_code 10 = .ok (.iload_n 1, 1) := by decide +kernel
theorem d_X11_point_11 : decode prog_13_method_75_code 11 = .ok (.invokevirtual 424, 3) := by decide +kernel
theorem d_X11_point_14 : decode prog_13_method_75_code 14 = .ok (.ifCond .eq 12, 3) := by decide +kernel
theorem d_X11_point_17 : decode prog_13_method_75_code 17 = .ok (.aload_n 0, 1) := by decide +kernel
theorem d_X11_point_18 : decode prog_13_method_75_code 18 = .ok (.iload_n 1, 1) := by decide +kernel
theorem d_X11_point_19 : decode prog_13_method_75_code 19 = .ok (.iload_n 2, 1) := by decide +kernel
theorem d_X11_point_20 : decode prog_13_method_75_code 20 = .ok (.invokevirtual 322, 3) := by decide +kernel
theorem d_X11_point_23 : decode prog_13_method_75_code 23 = .ok (.ifCond .ge 8, 3) := by decide +kernel
theorem d_X11_point_26 : decode prog_13_method_75_code 26 = .ok (.bipush (-2), 2) := by decide +kernel
theorem d_X11_point_28 : decode prog_13_method_75_code 28 = .ok (.goto 9, 3) := by decide +kernel
theorem d_X11_point_31 : decode prog_13_method_75_code 31 = .ok (.aload_n 0, 1) := by decide +kernel
theorem d_X11_point_32 : decode prog_13_method_75_code 32 = .ok (.iload_n 1, 1) := by decide +kernel
theorem d_X11_point_33 : decode prog_13_method_75_code 33 = .ok (.iload_n 2, 1) := by decide +kernel
theorem d_X11_point_34 : decode prog_13_method_75_code 34 = .ok (.invokevirtual 322, 3) := by decide +kernel
theorem d_X11_point_37 : decode prog_13_method_75_code 37 = .ok (.ireturn, 1) := by decide +kernel
def f_X11_point_26 (M0 : tp_M) : Option (Int) :=
  some (-2)
set_option maxHeartbeats 4000000 in
set_option maxRecDepth 100000 in
theorem T_X11_point_26 (G : tp_G) (M0 : tp_M) : tp_J i_X11_point (tp_rm 2) G 0 0 (o_X11_point M0) tp_NC (tp_st M0) 0 0 [none, none, none] 26 [] (f_X11_point_26 M0) := by
  unfold f_X11_point_26
  refine j_bipush ⟨by decide, by decide⟩ (by decide +kernel) d_X11_point_26 ?_
  refine j_goto (tgt := 37) d_X11_point_28 (by decide) ?_
  exact j_iret d_X11_point_37 rfl rfl ⟨rfl, rfl⟩
def f_X11_point (a0 : Int) (a1 : Int) (M0 : tp_M) : Option (Int) :=
  (f_X11_isPower a1 M0).bind fun r1 =>
  if ¬ r1 = 0 then
    (f_X11_isKnot a0 M0).bind fun r4 =>
    if r4 = 0 then
      f_X11_point_26 M0
    else
      (f_X11_point0 a0 a1 M0).bind fun r7 =>
      if 0 ≤ r7 then
        (f_X11_point0 a0 a1 M0).bind fun r10 =>
        some r10
      else
        f_X11_point_26 M0
  else
    some (-1)
set_option maxHeartbeats 4000000 in
set_option maxRecDepth 100000 in
theorem T_X11_point (G : tp_G) (a0 : Int) (a1 : Int) (M0 : tp_M) : tp_J i_X11_point (tp_rm 2) G 0 0 (o_X11_point M0) tp_NC (tp_st M0) 0 0 [some (.inr (.inr 483)), some (.inl a0), some (.inl a1)] 0 [] (f_X11_point a0 a1 M0) := by
  unfold f_X11_point
  refine j_iload_n rfl d_X11_point_0 rfl ?_
  refine j_bind (fun r1 h2 => ?_)
  refine j_callS (y := y_X11_isPower) (I' := i_X11_isPower) (avs := [.inl a1]) (st := []) (c_X11_isPower G a1 M0 r1 h2) cs_Model_243 wd_1302 wd_1303 rfl rfl (Nat.le_of_ble_eq_true rfl) ⟨rfl, rfl⟩ ⟨by decide, by decide⟩ ⟨by decide, by decide⟩ d_X11_point_1 ?_
  refine j_if_ne (tgt := 9) d_X11_point_4 (by decide) (fun h3 => ?_) (fun h3 => ?_)
  · refine j_aload_n rfl d_X11_point_9 rfl ?_
    refine j_iload_n rfl d_X11_point_10 rfl ?_
    refine j_bind (fun r4 h5 => ?_)
    refine j_callV (y := y_X11_isKnot) (I' := i_X11_isKnot) (avs := [.inl a0]) (c := 483) (st := []) (c_X11_isKnot G a0 M0 r4 h5) cs_Model_424 wd_1517 wd_1519 ws_87 tg_483 rfl rfl rfl (Nat.le_of_ble_eq_true rfl) ⟨rfl, rfl⟩ ⟨by decide, by decide⟩ ⟨by decide, by decide⟩ d_X11_point_11 ?_
    refine j_if_eq (tgt := 26) d_X11_point_14 (by decide) (fun h6 => ?_) (fun h6 => ?_)
    · exact j_wk [false, false, false] rfl rfl (T_X11_point_26 G M0)
    · refine j_aload_n rfl d_X11_point_17 rfl ?_
      refine j_iload_n rfl d_X11_point_18 rfl ?_
      refine j_iload_n rfl d_X11_point_19 rfl ?_
      refine j_bind (fun r7 h8 => ?_)
      refine j_callV (y := y_X11_point0) (I' := i_X11_point0) (avs := [.inl a0, .inl a1]) (c := 483) (st := []) (c_X11_point0 G a0 a1 M0 r7 h8) cs_Model_322 wd_1448 wd_1450 ws_73 tg_483 rfl rfl rfl (Nat.le_of_ble_eq_true rfl) ⟨rfl, rfl⟩ ⟨by decide, by decide⟩ ⟨by decide, by decide⟩ d_X11_point_20 ?_
      refine j_if_ge (tgt := 31) d_X11_point_23 (by decide) (fun h9 => ?_) (fun h9 => ?_)
      · refine j_aload_n rfl d_X11_point_31 rfl ?_
        refine j_iload_n rfl d_X11_point_32 rfl ?_
        refine j_iload_n rfl d_X11_point_33 rfl ?_
        refine j_bind (fun r10 h11 => ?_)
        refine j_callV (y := y_X11_point0) (I' := i_X11_point0) (avs := [.inl a0, .inl a1]) (c := 483) (st := []) (c_X11_point0 G a0 a1 M0 r10 h11) cs_Model_322 wd_1448 wd_1450 ws_73 tg_483 rfl rfl rfl (Nat.le_of_ble_eq_true rfl) ⟨rfl, rfl⟩ ⟨by decide, by decide⟩ ⟨by decide, by decide⟩ d_X11_point_34 ?_
        exact j_iret d_X11_point_37 rfl rfl ⟨rfl, rfl⟩
      · exact j_wk [false, false, false] rfl rfl (T_X11_point_26 G M0)
  · refine j_iconst ⟨by decide, by decide⟩ d_X11_point_7 ?_
    exact j_iret d_X11_point_8 rfl rfl ⟨rfl, rfl⟩
set_option maxHeartbeats 4000000 in
set_option maxRecDepth 100000 in
theorem c_X11_point (G : tp_G) (a0 : Int) (a1 : Int) (M0 : tp_M) (r : Int) (h : f_X11_point a0 a1 M0 = some r) (l : Launch) : Met l y_X11_point (tp_ws y_X11_point i_X11_point) (tp_rm 2) (tp_Pc G [.inr (.inr 483), .inl a0, .inl a1] tp_NC (tp_st M0)) (tp_Q G ((o_X11_point M0) r)) 0 0 (tp_A G) :=
  tp_met (I := i_X11_point) (y := y_X11_point) (by decide +kernel) (Eq.refl "TypesAtPrimeModel") (Eq.refl "point") (lv := [some (.inr (.inr 483)), some (.inl a0), some (.inl a1)]) rfl (Nat.le_of_ble_eq_true rfl) (T_X11_point G a0 a1 M0) h l
def y_X11_isSide : MethodName := ⟨"TypesAtPrimeModel", "isSide", "(II)Z"⟩
abbrev i_X11_isSide : tp_I := (prog_13_method_76_code, "TypesAtPrimeModel", (some .boolean), 3, "isSide")
abbrev o_X11_isSide (M : tp_M) : Int → tp_O := fun r => (some (.inl r), tp_NC, tp_st M)
theorem d_X11_isSide_0 : decode prog_13_method_76_code 0 = .ok (.aload_n 0, 1) := by decide +kernel
theorem d_X11_isSide_1 : decode prog_13_method_76_code 1 = .ok (.iload_n 1, 1) := by decide +kernel
theorem d_X11_isSide_2 : decode prog_13_method_76_code 2 = .ok (.invokevirtual 424, 3) := by decide +kernel
theorem d_X11_isSide_5 : decode prog_13_method_76_code 5 = .ok (.ifCond .eq 25, 3) := by decide +kernel
theorem d_X11_isSide_8 : decode prog_13_method_76_code 8 = .ok (.iload_n 2, 1) := by decide +kernel
theorem d_X11_isSide_9 : decode prog_13_method_76_code 9 = .ok (.i2l, 1) := by decide +kernel
theorem d_X11_isSide_10 : decode prog_13_method_76_code 10 = .ok (.lconst 0, 1) := by decide +kernel
theorem d_X11_isSide_11 : decode prog_13_method_76_code 11 = .ok (.aload_n 0, 1) := by decide +kernel
theorem d_X11_isSide_12 : decode prog_13_method_76_code 12 = .ok (.getfield 59, 3) := by decide +kernel
theorem d_X11_isSide_15 : decode prog_13_method_76_code 15 = .ok (.iload_n 1, 1) := by decide +kernel
theorem d_X11_isSide_16 : decode prog_13_method_76_code 16 = .ok (.iaload, 1) := by decide +kernel
theorem d_X11_isSide_17 : decode prog_13_method_76_code 17 = .ok (.iconst 1, 1) := by decide +kernel
theorem d_X11_isSide_18 : decode prog_13_method_76_code 18 = .ok (.isub, 1) := by decide +kernel
theorem d_X11_isSide_19 : decode prog_13_method_76_code 19 = .ok (.i2l, 1) := by decide +kernel
theorem d_X11_isSide_20 : decode prog_13_method_76_code 20 = .ok (.invokestatic 193, 3) := by decide +kernel
theorem d_X11_isSide_23 : decode prog_13_method_76_code 23 = .ok (.ifCond .eq 7, 3) := by decide +kernel
theorem d_X11_isSide_26 : decode prog_13_method_76_code 26 = .ok (.iconst 1, 1) := by decide +kernel
theorem d_X11_isSide_27 : decode prog_13_method_76_code 27 = .ok (.goto 4, 3) := by decide +kernel
theorem d_X11_isSide_30 : decode prog_13_method_76_code 30 = .ok (.iconst 0, 1) := by decide +kernel
theorem d_X11_isSide_31 : decode prog_13_method_76_code 31 = .ok (.ireturn, 1) := by decide +kernel
def f_X11_isSide (a0 : Int) (a1 : Int) (M0 : tp_M) : Option (Int) :=
  (f_X11_isKnot a0 M0).bind fun r1 =>
  if r1 = 0 then
    some 0
  else
    if 0 ≤ a0 ∧ a0 < 40 then
      (f_X11_in a1 0 (tp_w ((M0 500 a0) - 1)) M0).bind fun r4 =>
      if r4 = 0 then
        some 0
      else
        some 1 else none
set_option maxHeartbeats 4000000 in
set_option maxRecDepth 100000 in
theorem T_X11_isSide (G : tp_G) (a0 : Int) (a1 : Int) (M0 : tp_M) : tp_J i_X11_isSide (tp_rm 2) G 0 0 (o_X11_isSide M0) tp_NC (tp_st M0) 0 0 [some (.inr (.inr 483)), some (.inl a0), some (.inl a1)] 0 [] (f_X11_isSide a0 a1 M0) := by
  unfold f_X11_isSide
  refine j_aload_n rfl d_X11_isSide_0 rfl ?_
  refine j_iload_n rfl d_X11_isSide_1 rfl ?_
  refine j_bind (fun r1 h2 => ?_)
  refine j_callV (y := y_X11_isKnot) (I' := i_X11_isKnot) (avs := [.inl a0]) (c := 483) (st := []) (c_X11_isKnot G a0 M0 r1 h2) cs_Model_424 wd_1517 wd_1519 ws_87 tg_483 rfl rfl rfl (Nat.le_of_ble_eq_true rfl) ⟨rfl, rfl⟩ ⟨by decide, by decide⟩ ⟨by decide, by decide⟩ d_X11_isSide_2 ?_
  refine j_if_eq (tgt := 30) d_X11_isSide_5 (by decide) (fun h3 => ?_) (fun h3 => ?_)
  · refine j_iconst ⟨by decide, by decide⟩ d_X11_isSide_30 ?_
    exact j_zret d_X11_isSide_31 rfl (Or.inl rfl) rfl ⟨rfl, rfl⟩
  · refine j_iload_n rfl d_X11_isSide_8 rfl ?_
    refine j_i2l d_X11_isSide_9 ?_
    refine j_lconst (x := 0) ⟨by decide, by decide⟩ (by decide +kernel) d_X11_isSide_10 ?_
    refine j_aload_n rfl d_X11_isSide_11 rfl ?_
    refine j_getr fl_Model_59 tg_483 rv_483_28 d_X11_isSide_12 ?_
    refine j_iload_n rfl d_X11_isSide_15 rfl ?_
    refine j_iald tg_500 al_500 d_X11_isSide_16 ?_
    refine j_iconst ⟨by decide, by decide⟩ d_X11_isSide_17 ?_
    refine j_isub d_X11_isSide_18 ?_
    refine j_i2l d_X11_isSide_19 ?_
    refine j_bind (fun r4 h5 => ?_)
    refine j_callS (y := y_X11_in) (I' := i_X11_in) (avs := [.inr (.inl a1), .inr (.inl 0), .inr (.inl (tp_w ((M0 500 a0) - 1)))]) (st := []) (c_X11_in G a1 0 (tp_w ((M0 500 a0) - 1)) M0 r4 h5) cs_Model_193 wd_1239 wd_1240 rfl rfl (Nat.le_of_ble_eq_true rfl) ⟨rfl, rfl⟩ ⟨by decide, by decide⟩ ⟨by decide, by decide⟩ d_X11_isSide_20 ?_
    refine j_if_eq (tgt := 30) d_X11_isSide_23 (by decide) (fun h6 => ?_) (fun h6 => ?_)
    · refine j_iconst ⟨by decide, by decide⟩ d_X11_isSide_30 ?_
      exact j_zret d_X11_isSide_31 rfl (Or.inl rfl) rfl ⟨rfl, rfl⟩
    · refine j_iconst ⟨by decide, by decide⟩ d_X11_isSide_26 ?_
      refine j_goto (tgt := 31) d_X11_isSide_27 (by decide) ?_
      exact j_zret d_X11_isSide_31 rfl (Or.inr rfl) rfl ⟨rfl, rfl⟩
set_option maxHeartbeats 4000000 in
set_option maxRecDepth 100000 in
theorem c_X11_isSide (G : tp_G) (a0 : Int) (a1 : Int) (M0 : tp_M) (r : Int) (h : f_X11_isSide a0 a1 M0 = some r) (l : Launch) : Met l y_X11_isSide (tp_ws y_X11_isSide i_X11_isSide) (tp_rm 2) (tp_Pc G [.inr (.inr 483), .inl a0, .inl a1] tp_NC (tp_st M0)) (tp_Q G ((o_X11_isSide M0) r)) 0 0 (tp_A G) :=
  tp_met (I := i_X11_isSide) (y := y_X11_isSide) (by decide +kernel) (Eq.refl "TypesAtPrimeModel") (Eq.refl "isSide") (lv := [some (.inr (.inr 483)), some (.inl a0), some (.inl a1)]) rfl (Nat.le_of_ble_eq_true rfl) (T_X11_isSide G a0 a1 M0) h l
theorem wd_1533 : (.constantLong "TypesAtPrimeModel" 427 5 : Cond) ∈ lw_tbl := List.mem_append_right _ (List.mem_of_getElem? (i := 1533) (by decide +kernel))
theorem wd_1537 : (.code ⟨"TypesAtPrimeModel", "isSide", "(II)Z"⟩ prog_13_method_76_code 3 (some .boolean) : Cond) ∈ lw_tbl := List.mem_append_right _ (List.mem_of_getElem? (i := 1537) (by decide +kernel))
theorem cs_Model_429 : tp_CS "TypesAtPrimeModel" 429 y_X11_isSide i_X11_isSide 2 := ⟨wd_1537, wd_12, by decide, by decide, by decide +kernel⟩
theorem wd_1534 : (.methodLink "TypesAtPrimeModel" 429 ⟨"TypesAtPrimeModel", "isSide", "(II)Z"⟩ : Cond) ∈ lw_tbl := List.mem_append_right _ (List.mem_of_getElem? (i := 1534) (by decide +kernel))
theorem wd_1536 : (.instanceMethod ⟨"TypesAtPrimeModel", "isSide", "(II)Z"⟩ : Cond) ∈ lw_tbl := List.mem_append_right _ (List.mem_of_getElem? (i := 1536) (by decide +kernel))
theorem ws_88 : (.selects "TypesAtPrimeModel" ⟨"TypesAtPrimeModel", "isSide", "(II)Z"⟩ ⟨"TypesAtPrimeModel", "isSide", "(II)Z"⟩ : Cond) ∈ lw_tbl := List.mem_append_left _ (List.mem_of_getElem? (i := 88) (by decide +kernel))
def y_X11_side : MethodName := ⟨"TypesAtPrimeModel", "side", "(III)I"⟩
abbrev i_X11_side : tp_I := (prog_13_method_77_code, "TypesAtPrimeModel", (some .int), 5, "side")
abbrev o_X11_side (M : tp_M) : Int → tp_O := fun r => (some (.inl r), tp_NC, tp_st M)
theorem d_X11_side_0 : decode prog_13_method_77_code 0 = .ok (.iload_n 3, 1) := by decide +kernel
theorem d_X11_side_1 : decode prog_13_method_77_code 1 = .ok (.i2l, 1) := by decide +kernel
theorem d_X11_side_2 : decode prog_13_method_77_code 2 = .ok (.lconst 0, 1) := by decide +kernel
theorem d_X11_side_3 : decode prog_13_method_77_code 3 = .ok (.ldc2_w 427, 3) := by decide +kernel
theorem d_X11_side_6 : decode prog_13_method_77_code 6 = .ok (.invokestatic 193, 3) := by decide +kernel
theorem d_X11_side_9 : decode prog_13_method_77_code 9 = .ok (.ifCond .ne 5, 3) := by decide +kernel
theorem d_X11_side_12 : decode prog_13_method_77_code 12 = .ok (.iconst (-1), 1) := by decide +kernel
theorem d_X11_side_13 : decode prog_13_method_77_code 13 = .ok (.ireturn, 1) := by decide +kernel
theorem d_X11_side_14 : decode prog_13_method_77_code 14 = .ok (.aload_n 0, 1) := by decide +kernel
theorem d_X11_side_15 : decode prog_13_method_77_code 15 = .ok (.iload_n 1, 1) := by decide +kernel
theorem d_X11_side_16 : decode prog_13_method_77_code 16 = .ok (.iload_n 2, 1) := by decide +kernel
theorem d_X11_side_17 : decode prog_13_method_77_code 17 = .ok (.invokevirtual 429, 3) := by decide +kernel
theorem d_X11_side_20 : decode prog_13_method_77_code 20 = .ok (.ifCond .ne 6, 3) := by decide +kernel
theorem d_X11_side_23 : decode prog_13_method_77_code 23 = .ok (.bipush (-2), 2) := by decide +kernel
theorem d_X11_side_25 : decode prog_13_method_77_code 25 = .ok (.ireturn, 1) := by decide +kernel
theorem d_X11_side_26 : decode prog_13_method_77_code 26 = .ok (.aload_n 0, 1) := by decide +kernel
theorem d_X11_side_27 : decode prog_13_method_77_code 27 = .ok (.getfield 56, 3) := by decide +kernel
theorem d_X11_side_30 : decode prog_13_method_77_code 30 = .ok (.iload_n 1, 1) := by decide +kernel
theorem d_X11_side_31 : decode prog_13_method_77_code 31 = .ok (.iaload, 1) := by decide +kernel
theorem d_X11_side_32 : decode prog_13_method_77_code 32 = .ok (.iload_n 2, 1) := by decide +kernel
theorem d_X11_side_33 : decode prog_13_method_77_code 33 = .ok (.iadd, 1) := by decide +kernel
theorem d_X11_side_34 : decode prog_13_method_77_code 34 = .ok (.istore 4, 2) := by decide +kernel
theorem d_X11_side_36 : decode prog_13_method_77_code 36 = .ok (.iload_n 3, 1) := by decide +kernel
theorem d_X11_side_37 : decode prog_13_method_77_code 37 = .ok (.tableswitch 75 0 4 #[35, 43, 51, 59, 67], 35) := by decide +kernel
theorem d_X11_side_72 : decode prog_13_method_77_code 72 = .ok (.aload_n 0, 1) := by decide +kernel
theorem d_X11_side_73 : decode prog_13_method_77_code 73 = .ok (.getfield 83, 3) := by decide +kernel
theorem d_X11_side_76 : decode prog_13_method_77_code 76 = .ok (.iload 4, 2) := by decide +kernel
theorem d_X11_side_78 : decode prog_13_method_77_code 78 = .ok (.iaload, 1) := by decide +kernel
theorem d_X11_side_79 : decode prog_13_method_77_code 79 = .ok (.ireturn, 1) := by decide +kernel
theorem d_X11_side_80 : decode prog_13_method_77_code 80 = .ok (.aload_n 0, 1) := by decide +kernel
theorem d_X11_side_81 : decode prog_13_method_77_code 81 = .ok (.getfield 86, 3) := by decide +kernel
theorem d_X11_side_84 : decode prog_13_method_77_code 84 = .ok (.iload 4, 2) := by decide +kernel
theorem d_X11_side_86 : decode prog_13_method_77_code 86 = .ok (.iaload, 1) := by decide +kernel
theorem d_X11_side_87 : decode prog_13_method_77_code 87 = .ok (.ireturn, 1) := by decide +kernel
theorem d_X11_side_88 : decode prog_13_method_77_code 88 = .ok (.aload_n 0, 1) := by decide +kernel
theorem d_X11_side_89 : decode prog_13_method_77_code 89 = .ok (.getfield 89, 3) := by decide +kernel
theorem d_X11_side_92 : decode prog_13_method_77_code 92 = .ok (.iload 4, 2) := by decide +kernel
theorem d_X11_side_94 : decode prog_13_method_77_code 94 = .ok (.iaload, 1) := by decide +kernel
theorem d_X11_side_95 : decode prog_13_method_77_code 95 = .ok (.ireturn, 1) := by decide +kernel
theorem d_X11_side_96 : decode prog_13_method_77_code 96 = .ok (.aload_n 0, 1) := by decide +kernel
theorem d_X11_side_97 : decode prog_13_method_77_code 97 = .ok (.getfield 92, 3) := by decide +kernel
theorem d_X11_side_100 : decode prog_13_method_77_code 100 = .ok (.iload 4, 2) := by decide +kernel
theorem d_X11_side_102 : decode prog_13_method_77_code 102 = .ok (.iaload, 1) := by decide +kernel
theorem d_X11_side_103 : decode prog_13_method_77_code 103 = .ok (.ireturn, 1) := by decide +kernel
theorem d_X11_side_104 : decode prog_13_method_77_code 104 = .ok (.aload_n 0, 1) := by decide +kernel
theorem d_X11_side_105 : decode prog_13_method_77_code 105 = .ok (.getfield 95, 3) := by decide +kernel
theorem d_X11_side_108 : decode prog_13_method_77_code 108 = .ok (.iload 4, 2) := by decide +kernel
theorem d_X11_side_110 : decode prog_13_method_77_code 110 = .ok (.iaload, 1) := by decide +kernel
theorem d_X11_side_111 : decode prog_13_method_77_code 111 = .ok (.ireturn, 1) := by decide +kernel
theorem d_X11_side_112 : decode prog_13_method_77_code 112 = .ok (.aload_n 0, 1) := by decide +kernel
theorem d_X11_side_113 : decode prog_13_method_77_code 113 = .ok (.getfield 98, 3) := by decide +kernel
theorem d_X11_side_116 : decode prog_13_method_77_code 116 = .ok (.iload 4, 2) := by decide +kernel
theorem d_X11_side_118 : decode prog_13_method_77_code 118 = .ok (.iaload, 1) := by decide +kernel
theorem d_X11_side_119 : decode prog_13_method_77_code 119 = .ok (.ireturn, 1) := by decide +kernel
def f_X11_side (a0 : Int) (a1 : Int) (a2 : Int) (M0 : tp_M) : Option (Int) :=
  (f_X11_in a2 0 5 M0).bind fun r1 =>
  if ¬ r1 = 0 then
    (f_X11_isSide a0 a1 M0).bind fun r4 =>
    if ¬ r4 = 0 then
      if 0 ≤ a0 ∧ a0 < 40 then
        tp_lt ((tp_w ((M0 499 a0) + a1))) fun y7 =>
        if a2 = 0 then
          if 0 ≤ y7 ∧ y7 < 64 then
            some (M0 508 y7) else none
        else if a2 = 1 then
          if 0 ≤ y7 ∧ y7 < 64 then
            some (M0 509 y7) else none
        else if a2 = 2 then
          if 0 ≤ y7 ∧ y7 < 64 then
            some (M0 510 y7) else none
        else if a2 = 3 then
          if 0 ≤ y7 ∧ y7 < 64 then
            some (M0 511 y7) else none
        else if a2 = 4 then
          if 0 ≤ y7 ∧ y7 < 64 then
            some (M0 512 y7) else none
        else 
          if 0 ≤ y7 ∧ y7 < 64 then
            some (M0 513 y7) else none else none
    else
      some (-2)
  else
    some (-1)
set_option maxHeartbeats 4000000 in
set_option maxRecDepth 100000 in
theorem T_X11_side (G : tp_G) (a0 : Int) (a1 : Int) (a2 : Int) (M0 : tp_M) : tp_J i_X11_side (tp_rm 3) G 0 0 (o_X11_side M0) tp_NC (tp_st M0) 0 0 [some (.inr (.inr 483)), some (.inl a0), some (.inl a1), some (.inl a2), none] 0 [] (f_X11_side a0 a1 a2 M0) := by
  unfold f_X11_side
  refine j_iload_n rfl d_X11_side_0 rfl ?_
  refine j_i2l d_X11_side_1 ?_
  refine j_lconst (x := 0) ⟨by decide, by decide⟩ (by decide +kernel) d_X11_side_2 ?_
  refine j_ldc2 (x := 5) ⟨by decide, by decide⟩ (show Cond.constantLong _ _ _ ∈ lw_tbl from wd_1533) d_X11_side_3 ?_
  refine j_bind (fun r1 h2 => ?_)
  refine j_callS (y := y_X11_in) (I' := i_X11_in) (avs := [.inr (.inl a2), .inr (.inl 0), .inr (.inl 5)]) (st := []) (c_X11_in G a2 0 5 M0 r1 h2) cs_Model_193 wd_1239 wd_1240 rfl rfl (Nat.le_of_ble_eq_true rfl) ⟨rfl, rfl⟩ ⟨by decide, by decide⟩ ⟨by decide, by decide⟩ d_X11_side_6 ?_
  refine j_if_ne (tgt := 14) d_X11_side_9 (by decide) (fun h3 => ?_) (fun h3 => ?_)
  · refine j_aload_n rfl d_X11_side_14 rfl ?_
    refine j_iload_n rfl d_X11_side_15 rfl ?_
    refine j_iload_n rfl d_X11_side_16 rfl ?_
    refine j_bind (fun r4 h5 => ?_)
    refine j_callV (y := y_X11_isSide) (I' := i_X11_isSide) (avs := [.inl a0, .inl a1]) (c := 483) (st := []) (c_X11_isSide G a0 a1 M0 r4 h5) cs_Model_429 wd_1534 wd_1536 ws_88 tg_483 rfl rfl rfl (Nat.le_of_ble_eq_true rfl) ⟨rfl, rfl⟩ ⟨by decide, by decide⟩ ⟨by decide, by decide⟩ d_X11_side_17 ?_
    refine j_if_ne (tgt := 26) d_X11_side_20 (by decide) (fun h6 => ?_) (fun h6 => ?_)
    · refine j_aload_n rfl d_X11_side_26 rfl ?_
      refine j_getr fl_Model_56 tg_483 rv_483_27 d_X11_side_27 ?_
      refine j_iload_n rfl d_X11_side_30 rfl ?_
      refine j_iald tg_499 al_499 d_X11_side_31 ?_
      refine j_iload_n rfl d_X11_side_32 rfl ?_
      refine j_iadd d_X11_side_33 ?_
      refine j_nmI (fun y7 hy7 => ?_)
      refine j_istore (lv' := [some (.inr (.inr 483)), some (.inl a0), some (.inl a1), some (.inl a2), some (.inl y7)]) d_X11_side_34 (Nat.le_of_ble_eq_true rfl) rfl ?_
      refine j_iload_n rfl d_X11_side_36 rfl ?_
      refine tp_ite (fun h8 => ?_) (fun h8 => ?_)
      · refine j_tsin (tgt := 72) d_X11_side_37 (by omega) (by omega) (off := 35) (by rw [h8]; decide +kernel) (by decide) ?_
        refine j_aload_n rfl d_X11_side_72 rfl ?_
        refine j_getr fl_Model_83 tg_483 rv_483_36 d_X11_side_73 ?_
        refine j_iload d_X11_side_76 rfl ?_
        refine j_iald tg_508 al_508 d_X11_side_78 ?_
        exact j_iret d_X11_side_79 rfl rfl ⟨rfl, rfl⟩
      refine tp_ite (fun h9 => ?_) (fun h9 => ?_)
      · refine j_tsin (tgt := 80) d_X11_side_37 (by omega) (by omega) (off := 43) (by rw [h9]; decide +kernel) (by decide) ?_
        refine j_aload_n rfl d_X11_side_80 rfl ?_
        refine j_getr fl_Model_86 tg_483 rv_483_37 d_X11_side_81 ?_
        refine j_iload d_X11_side_84 rfl ?_
        refine j_iald tg_509 al_509 d_X11_side_86 ?_
        exact j_iret d_X11_side_87 rfl rfl ⟨rfl, rfl⟩
      refine tp_ite (fun h10 => ?_) (fun h10 => ?_)
      · refine j_tsin (tgt := 88) d_X11_side_37 (by omega) (by omega) (off := 51) (by rw [h10]; decide +kernel) (by decide) ?_
        refine j_aload_n rfl d_X11_side_88 rfl ?_
        refine j_getr fl_Model_89 tg_483 rv_483_38 d_X11_side_89 ?_
        refine j_iload d_X11_side_92 rfl ?_
        refine j_iald tg_510 al_510 d_X11_side_94 ?_
        exact j_iret d_X11_side_95 rfl rfl ⟨rfl, rfl⟩
      refine tp_ite (fun h11 => ?_) (fun h11 => ?_)
      · refine j_tsin (tgt := 96) d_X11_side_37 (by omega) (by omega) (off := 59) (by rw [h11]; decide +kernel) (by decide) ?_
        refine j_aload_n rfl d_X11_side_96 rfl ?_
        refine j_getr fl_Model_92 tg_483 rv_483_39 d_X11_side_97 ?_
        refine j_iload d_X11_side_100 rfl ?_
        refine j_iald tg_511 al_511 d_X11_side_102 ?_
        exact j_iret d_X11_side_103 rfl rfl ⟨rfl, rfl⟩
      refine tp_ite (fun h12 => ?_) (fun h12 => ?_)
      · refine j_tsin (tgt := 104) d_X11_side_37 (by omega) (by omega) (off := 67) (by rw [h12]; decide +kernel) (by decide) ?_
        refine j_aload_n rfl d_X11_side_104 rfl ?_
        refine j_getr fl_Model_95 tg_483 rv_483_40 d_X11_side_105 ?_
        refine j_iload d_X11_side_108 rfl ?_
        refine j_iald tg_512 al_512 d_X11_side_110 ?_
        exact j_iret d_X11_side_111 rfl rfl ⟨rfl, rfl⟩
      refine j_tsout (tgt := 112) d_X11_side_37 (by omega) (by decide) ?_
      refine j_aload_n rfl d_X11_side_112 rfl ?_
      refine j_getr fl_Model_98 tg_483 rv_483_41 d_X11_side_113 ?_
      refine j_iload d_X11_side_116 rfl ?_
      refine j_iald tg_513 al_513 d_X11_side_118 ?_
      exact j_iret d_X11_side_119 rfl rfl ⟨rfl, rfl⟩
    · refine j_bipush ⟨by decide, by decide⟩ (by decide +kernel) d_X11_side_23 ?_
      exact j_iret d_X11_side_25 rfl rfl ⟨rfl, rfl⟩
  · refine j_iconst ⟨by decide, by decide⟩ d_X11_side_12 ?_
    exact j_iret d_X11_side_13 rfl rfl ⟨rfl, rfl⟩
set_option maxHeartbeats 4000000 in
set_option maxRecDepth 100000 in
theorem c_X11_side (G : tp_G) (a0 : Int) (a1 : Int) (a2 : Int) (M0 : tp_M) (r : Int) (h : f_X11_side a0 a1 a2 M0 = some r) (l : Launch) : Met l y_X11_side (tp_ws y_X11_side i_X11_side) (tp_rm 3) (tp_Pc G [.inr (.inr 483), .inl a0, .inl a1, .inl a2] tp_NC (tp_st M0)) (tp_Q G ((o_X11_side M0) r)) 0 0 (tp_A G) :=
  tp_met (I := i_X11_side) (y := y_X11_side) (by decide +kernel) (Eq.refl "TypesAtPrimeModel") (Eq.refl "side") (lv := [some (.inr (.inr 483)), some (.inl a0), some (.inl a1), some (.inl a2), none]) rfl (Nat.le_of_ble_eq_true rfl) (T_X11_side G a0 a1 a2 M0) h l
