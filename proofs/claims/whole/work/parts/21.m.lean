theorem pf_0_4 (v : Int) : ∀ (C : String) (T : u_T) (N : Nat), vwCl[0]? = some (C, T, N) → (T 4).2.2.2 = false ∧ ∀ G : tp_G, ∃ ty, parseFieldDescriptor (T 4).2.2.1 = some ty ∧ narrow ty (tp_enc G (tp_zv 0 v)) = tp_enc G (tp_zv 0 v) ∧ fits ty (tp_enc G (tp_zv 0 v)) = true := by
  intro C T N h
  cases h
  exact ⟨rfl, fun G => ⟨_, tyX0_ok 4 (by decide), rfl, rfl⟩⟩
theorem wd_591 : (.code ⟨"TypesAtPrime$Factors", "raiseImage", "()V"⟩ prog_2_method_7_code 4 (none : Option Jvm.ClassFile.FieldType) : Cond) ∈ lw_tbl := List.mem_append_right _ (List.mem_of_getElem? (i := 591) (by decide +kernel))
theorem cs_Factors_72 : tp_CS "TypesAtPrime$Factors" 72 y_X0_raiseImage i_X0_raiseImage 0 := ⟨wd_591, wd_5, by decide, by decide, by decide +kernel⟩
theorem wd_588 : (.methodLink "TypesAtPrime$Factors" 72 ⟨"TypesAtPrime$Factors", "raiseImage", "()V"⟩ : Cond) ∈ lw_tbl := List.mem_append_right _ (List.mem_of_getElem? (i := 588) (by decide +kernel))
theorem wd_590 : (.instanceMethod ⟨"TypesAtPrime$Factors", "raiseImage", "()V"⟩ : Cond) ∈ lw_tbl := List.mem_append_right _ (List.mem_of_getElem? (i := 590) (by decide +kernel))
theorem ws_9 : (.selects "TypesAtPrime$Factors" ⟨"TypesAtPrime$Factors", "raiseImage", "()V"⟩ ⟨"TypesAtPrime$Factors", "raiseImage", "()V"⟩ : Cond) ∈ lw_tbl := List.mem_append_left _ (List.mem_of_getElem? (i := 9) (by decide +kernel))
theorem wd_609 : (.code ⟨"TypesAtPrime$Factors", "takeCommon", "()V"⟩ prog_2_method_8_code 5 (none : Option Jvm.ClassFile.FieldType) : Cond) ∈ lw_tbl := List.mem_append_right _ (List.mem_of_getElem? (i := 609) (by decide +kernel))
theorem cs_Factors_75 : tp_CS "TypesAtPrime$Factors" 75 y_X0_takeCommon i_X0_takeCommon 0 := ⟨wd_609, wd_5, by decide, by decide, by decide +kernel⟩
theorem wd_606 : (.methodLink "TypesAtPrime$Factors" 75 ⟨"TypesAtPrime$Factors", "takeCommon", "()V"⟩ : Cond) ∈ lw_tbl := List.mem_append_right _ (List.mem_of_getElem? (i := 606) (by decide +kernel))
theorem wd_608 : (.instanceMethod ⟨"TypesAtPrime$Factors", "takeCommon", "()V"⟩ : Cond) ∈ lw_tbl := List.mem_append_right _ (List.mem_of_getElem? (i := 608) (by decide +kernel))
theorem ws_12 : (.selects "TypesAtPrime$Factors" ⟨"TypesAtPrime$Factors", "takeCommon", "()V"⟩ ⟨"TypesAtPrime$Factors", "takeCommon", "()V"⟩ : Cond) ∈ lw_tbl := List.mem_append_left _ (List.mem_of_getElem? (i := 12) (by decide +kernel))
theorem wd_613 : (.code ⟨"TypesAtPrime$Factors", "findOfDegree", "(I)V"⟩ prog_2_method_9_code 4 (none : Option Jvm.ClassFile.FieldType) : Cond) ∈ lw_tbl := List.mem_append_right _ (List.mem_of_getElem? (i := 613) (by decide +kernel))
theorem cs_Factors_78 : tp_CS "TypesAtPrime$Factors" 78 y_X0_findOfDegree i_X0_findOfDegree 1 := ⟨wd_613, wd_5, by decide, by decide, by decide +kernel⟩
theorem wd_610 : (.methodLink "TypesAtPrime$Factors" 78 ⟨"TypesAtPrime$Factors", "findOfDegree", "(I)V"⟩ : Cond) ∈ lw_tbl := List.mem_append_right _ (List.mem_of_getElem? (i := 610) (by decide +kernel))
theorem wd_612 : (.instanceMethod ⟨"TypesAtPrime$Factors", "findOfDegree", "(I)V"⟩ : Cond) ∈ lw_tbl := List.mem_append_right _ (List.mem_of_getElem? (i := 612) (by decide +kernel))
theorem ws_13 : (.selects "TypesAtPrime$Factors" ⟨"TypesAtPrime$Factors", "findOfDegree", "(I)V"⟩ ⟨"TypesAtPrime$Factors", "findOfDegree", "(I)V"⟩ : Cond) ∈ lw_tbl := List.mem_append_left _ (List.mem_of_getElem? (i := 13) (by decide +kernel))
def y_X0_find : MethodName := ⟨"TypesAtPrime$Factors", "find", "([II)Z"⟩
abbrev i_X0_find : tp_I := (prog_2_method_2_code, "TypesAtPrime$Factors", (some .boolean), 4, "find")
abbrev o_X0_find : Int × tp_M → tp_O := fun r => (some (.inl r.1), tp_NC, tp_st r.2)
theorem d_X0_find_0 : decode prog_2_method_2_code 0 = .ok (.aload_n 0, 1) := by decide +kernel
theorem d_X0_find_1 : decode prog_2_method_2_code 1 = .ok (.iconst 0, 1) := by decide +kernel
theorem d_X0_find_2 : decode prog_2_method_2_code 2 = .ok (.putfield 47, 3) := by decide +kernel
theorem d_X0_find_5 : decode prog_2_method_2_code 5 = .ok (.aload_n 0, 1) := by decide +kernel
theorem d_X0_find_6 : decode prog_2_method_2_code 6 = .ok (.iload_n 2, 1) := by decide +kernel
theorem d_X0_find_7 : decode prog_2_method_2_code 7 = .ok (.putfield 51, 3) := by decide +kernel
theorem d_X0_find_10 : decode prog_2_method_2_code 10 = .ok (.iconst 0, 1) := by decide +kernel
theorem d_X0_find_11 : decode prog_2_method_2_code 11 = .ok (.istore_n 3, 1) := by decide +kernel
theorem d_X0_find_12 : decode prog_2_method_2_code 12 = .ok (.iload_n 3, 1) := by decide +kernel
theorem d_X0_find_13 : decode prog_2_method_2_code 13 = .ok (.bipush 9, 2) := by decide +kernel
theorem d_X0_find_15 : decode prog_2_method_2_code 15 = .ok (.if_icmp .ge 32, 3) := by decide +kernel
theorem d_X0_find_18 : decode prog_2_method_2_code 18 = .ok (.aload_n 0, 1) := by decide +kernel
theorem d_X0_find_19 : decode prog_2_method_2_code 19 = .ok (.getfield 23, 3) := by decide +kernel
theorem d_X0_find_22 : decode prog_2_method_2_code 22 = .ok (.iload_n 3, 1) := by decide +kernel
theorem d_X0_find_23 : decode prog_2_method_2_code 23 = .ok (.iload_n 3, 1) := by decide +kernel
theorem d_X0_find_24 : decode prog_2_method_2_code 24 = .ok (.aload_n 1, 1) := by decide +kernel
theorem d_X0_find_25 : decode prog_2_method_2_code 25 = .ok (.arraylength, 1) := by decide +kernel
theorem d_X0_find_26 : decode prog_2_method_2_code 26 = .ok (.if_icmp .ge 13, 3) := by decide +kernel
theorem d_X0_find_29 : decode prog_2_method_2_code 29 = .ok (.aload_n 0, 1) := by decide +kernel
theorem d_X0_find_30 : decode prog_2_method_2_code 30 = .ok (.aload_n 1, 1) := by decide +kernel
theorem d_X0_find_31 : decode prog_2_method_2_code 31 = .ok (.iload_n 3, 1) := by decide +kernel
theorem d_X0_find_32 : decode prog_2_method_2_code 32 = .ok (.iaload, 1) := by decide +kernel
theorem d_X0_find_33 : decode prog_2_method_2_code 33 = .ok (.invokevirtual 54, 3) := by decide +kernel
theorem d_X0_find_36 : decode prog_2_method_2_code 36 = .ok (.goto 4, 3) := by decide +kernel
theorem d_X0_find_39 : decode prog_2_method_2_code 39 = .ok (.iconst 0, 1) := by decide +kernel
theorem d_X0_find_40 : decode prog_2_method_2_code 40 = .ok (.iastore, 1) := by decide +kernel
theorem d_X0_find_41 : decode prog_2_method_2_code 41 = .ok (.iinc 3 1, 3) := by decide +kernel
theorem d_X0_find_44 : decode prog_2_method_2_code 44 = .ok (.goto (-32), 3) := by decide +kernel
theorem d_X0_find_47 : decode prog_2_method_2_code 47 = .ok (.aload_n 0, 1) := by decide +kernel
theorem d_X0_find_48 : decode prog_2_method_2_code 48 = .ok (.getfield 23, 3) := by decide +kernel
theorem d_X0_find_51 : decode prog_2_method_2_code 51 = .ok (.invokestatic 58, 3) := by decide +kernel
theorem d_X0_find_54 : decode prog_2_method_2_code 54 = .ok (.ifCond .ge 5, 3) := by decide +kernel
theorem d_X0_find_57 : decode prog_2_method_2_code 57 = .ok (.iconst 0, 1) := by decide +kernel
theorem d_X0_find_58 : decode prog_2_method_2_code 58 = .ok (.ireturn, 1) := by decide +kernel
theorem d_X0_find_59 : decode prog_2_method_2_code 59 = .ok (.aload_n 0, 1) := by decide +kernel
theorem d_X0_find_60 : decode prog_2_method_2_code 60 = .ok (.aload_n 0, 1) := by decide +kernel
theorem d_X0_find_61 : decode prog_2_method_2_code 61 = .ok (.getfield 23, 3) := by decide +kernel
theorem d_X0_find_64 : decode prog_2_method_2_code 64 = .ok (.invokevirtual 62, 3) := by decide +kernel
theorem d_X0_find_67 : decode prog_2_method_2_code 67 = .ok (.aload_n 0, 1) := by decide +kernel
theorem d_X0_find_68 : decode prog_2_method_2_code 68 = .ok (.getfield 26, 3) := by decide +kernel
theorem d_X0_find_71 : decode prog_2_method_2_code 71 = .ok (.iconst 0, 1) := by decide +kernel
theorem d_X0_find_72 : decode prog_2_method_2_code 72 = .ok (.invokestatic 66, 3) := by decide +kernel
theorem d_X0_find_75 : decode prog_2_method_2_code 75 = .ok (.aload_n 0, 1) := by decide +kernel
theorem d_X0_find_76 : decode prog_2_method_2_code 76 = .ok (.getfield 26, 3) := by decide +kernel
theorem d_X0_find_79 : decode prog_2_method_2_code 79 = .ok (.iconst 1, 1) := by decide +kernel
theorem d_X0_find_80 : decode prog_2_method_2_code 80 = .ok (.iconst 1, 1) := by decide +kernel
theorem d_X0_find_81 : decode prog_2_method_2_code 81 = .ok (.iastore, 1) := by decide +kernel
theorem d_X0_find_82 : decode prog_2_method_2_code 82 = .ok (.iconst 1, 1) := by decide +kernel
theorem d_X0_find_83 : decode prog_2_method_2_code 83 = .ok (.istore_n 3, 1) := by decide +kernel
theorem d_X0_find_84 : decode prog_2_method_2_code 84 = .ok (.iload_n 3, 1) := by decide +kernel
theorem d_X0_find_85 : decode prog_2_method_2_code 85 = .ok (.bipush 9, 2) := by decide +kernel
theorem d_X0_find_87 : decode prog_2_method_2_code 87 = .ok (.if_icmp .ge 54, 3) := by decide +kernel
theorem d_X0_find_90 : decode prog_2_method_2_code 90 = .ok (.iconst 2, 1) := by decide +kernel
theorem d_X0_find_91 : decode prog_2_method_2_code 91 = .ok (.iload_n 3, 1) := by decide +kernel
theorem d_X0_find_92 : decode prog_2_method_2_code 92 = .ok (.imul, 1) := by decide +kernel
theorem d_X0_find_93 : decode prog_2_method_2_code 93 = .ok (.aload_n 0, 1) := by decide +kernel
theorem d_X0_find_94 : decode prog_2_method_2_code 94 = .ok (.getfield 23, 3) := by decide +kernel
theorem d_X0_find_97 : decode prog_2_method_2_code 97 = .ok (.invokestatic 58, 3) := by decide +kernel
theorem d_X0_find_100 : decode prog_2_method_2_code 100 = .ok (.if_icmp .gt 41, 3) := by decide +kernel
theorem d_X0_find_103 : decode prog_2_method_2_code 103 = .ok (.aload_n 0, 1) := by decide +kernel
theorem d_X0_find_104 : decode prog_2_method_2_code 104 = .ok (.invokevirtual 72, 3) := by decide +kernel
theorem d_X0_find_107 : decode prog_2_method_2_code 107 = .ok (.aload_n 0, 1) := by decide +kernel
theorem d_X0_find_108 : decode prog_2_method_2_code 108 = .ok (.invokevirtual 75, 3) := by decide +kernel
theorem d_X0_find_111 : decode prog_2_method_2_code 111 = .ok (.aload_n 0, 1) := by decide +kernel
theorem d_X0_find_112 : decode prog_2_method_2_code 112 = .ok (.iload_n 3, 1) := by decide +kernel
theorem d_X0_find_113 : decode prog_2_method_2_code 113 = .ok (.invokevirtual 78, 3) := by decide +kernel
theorem d_X0_find_116 : decode prog_2_method_2_code 116 = .ok (.aload_n 0, 1) := by decide +kernel
theorem d_X0_find_117 : decode prog_2_method_2_code 117 = .ok (.aload_n 0, 1) := by decide +kernel
theorem d_X0_find_118 : decode prog_2_method_2_code 118 = .ok (.getfield 26, 3) := by decide +kernel
theorem d_X0_find_121 : decode prog_2_method_2_code 121 = .ok (.aload_n 0, 1) := by decide +kernel
theorem d_X0_find_122 : decode prog_2_method_2_code 122 = .ok (.getfield 23, 3) := by decide +kernel
theorem d_X0_find_125 : decode prog_2_method_2_code 125 = .ok (.aload_n 0, 1) := by decide +kernel
theorem d_X0_find_126 : decode prog_2_method_2_code 126 = .ok (.getfield 23, 3) := by decide +kernel
theorem d_X0_find_129 : decode prog_2_method_2_code 129 = .ok (.invokestatic 58, 3) := by decide +kernel
theorem d_X0_find_132 : decode prog_2_method_2_code 132 = .ok (.invokevirtual 82, 3) := by decide +kernel
theorem d_X0_find_135 : decode prog_2_method_2_code 135 = .ok (.iinc 3 1, 3) := by decide +kernel
theorem d_X0_find_138 : decode prog_2_method_2_code 138 = .ok (.goto (-54), 3) := by decide +kernel
theorem d_X0_find_141 : decode prog_2_method_2_code 141 = .ok (.aload_n 0, 1) := by decide +kernel
theorem d_X0_find_142 : decode prog_2_method_2_code 142 = .ok (.getfield 23, 3) := by decide +kernel
theorem d_X0_find_145 : decode prog_2_method_2_code 145 = .ok (.invokestatic 58, 3) := by decide +kernel
theorem d_X0_find_148 : decode prog_2_method_2_code 148 = .ok (.ifCond .le 18, 3) := by decide +kernel
theorem d_X0_find_151 : decode prog_2_method_2_code 151 = .ok (.aload_n 0, 1) := by decide +kernel
theorem d_X0_find_152 : decode prog_2_method_2_code 152 = .ok (.aload_n 0, 1) := by decide +kernel
theorem d_X0_find_153 : decode prog_2_method_2_code 153 = .ok (.getfield 23, 3) := by decide +kernel
theorem d_X0_find_156 : decode prog_2_method_2_code 156 = .ok (.aload_n 0, 1) := by decide +kernel
theorem d_X0_find_157 : decode prog_2_method_2_code 157 = .ok (.getfield 23, 3) := by decide +kernel
theorem d_X0_find_160 : decode prog_2_method_2_code 160 = .ok (.invokestatic 58, 3) := by decide +kernel
theorem d_X0_find_163 : decode prog_2_method_2_code 163 = .ok (.invokevirtual 86, 3) := by decide +kernel
theorem d_X0_find_166 : decode prog_2_method_2_code 166 = .ok (.iconst 1, 1) := by decide +kernel
theorem d_X0_find_167 : decode prog_2_method_2_code 167 = .ok (.ireturn, 1) := by decide +kernel
def f_X0_find_141 (x0 : Int) (M0 : tp_M) : Option (Int × tp_M) :=
  (f_X10_degreeOf (x0 + 13) M0).bind fun r15 =>
  if r15 ≤ 0 then
    some (1, M0)
  else
    (f_X10_degreeOf (x0 + 13) M0).bind fun r18 =>
    (f_X0_keep x0 (x0 + 13) r18 M0).bind fun r20 =>
    some (1, r20)
set_option maxHeartbeats 4000000 in
set_option maxRecDepth 100000 in
theorem T_X0_find_141 (G : tp_G) (x0 : Int) (M0 : tp_M) (hg_x0 : tp_tg x0 = 0) : tp_J i_X0_find (tp_rm 4) G 0 0 o_X0_find tp_NC (tp_st M0) 0 0 [some (.inr (.inr x0)), none, none, none] 141 [] (f_X0_find_141 x0 M0) := by
  unfold f_X0_find_141
  refine j_aload_n rfl d_X0_find_141 rfl ?_
  refine j_getr fl_Factors_23 hg_x0 (fam_0_5 _ hg_x0).1 d_X0_find_142 ?_
  refine j_bind (fun r15 h16 => ?_)
  refine j_callSN (y := y_X10_degreeOf) (I' := i_X10_degreeOf) (avs := [.inr (.inr (x0 + 13))]) (st := []) (c_X10_degreeOf G (x0 + 13) M0 r15 h16) cs_Factors_58 (by decide +kernel : (.methodLinkNest "TypesAtPrime$Factors" 58 ⟨"TypesAtPrime", "degreeOf", "([I)I"⟩ "TypesAtPrime" : Cond) ∈ tp_nest) wd_517 rfl rfl (Nat.le_of_ble_eq_true rfl) ⟨rfl, rfl⟩ ⟨by decide, by decide⟩ ⟨by decide, by decide⟩ d_X0_find_145 ?_
  refine j_if_le (tgt := 166) d_X0_find_148 (by decide) (fun h17 => ?_) (fun h17 => ?_)
  · refine j_iconst ⟨by decide, by decide⟩ d_X0_find_166 ?_
    exact j_zret d_X0_find_167 rfl (Or.inr rfl) rfl ⟨rfl, rfl⟩
  · refine j_aload_n rfl d_X0_find_151 rfl ?_
    refine j_aload_n rfl d_X0_find_152 rfl ?_
    refine j_getr fl_Factors_23 hg_x0 (fam_0_5 _ hg_x0).1 d_X0_find_153 ?_
    refine j_aload_n rfl d_X0_find_156 rfl ?_
    refine j_getr fl_Factors_23 hg_x0 (fam_0_5 _ hg_x0).1 d_X0_find_157 ?_
    refine j_bind (fun r18 h19 => ?_)
    refine j_callSN (y := y_X10_degreeOf) (I' := i_X10_degreeOf) (avs := [.inr (.inr (x0 + 13))]) (st := [.inr (.inr (x0 + 13)), .inr (.inr x0)]) (c_X10_degreeOf G (x0 + 13) M0 r18 h19) cs_Factors_58 (by decide +kernel : (.methodLinkNest "TypesAtPrime$Factors" 58 ⟨"TypesAtPrime", "degreeOf", "([I)I"⟩ "TypesAtPrime" : Cond) ∈ tp_nest) wd_517 rfl rfl (Nat.le_of_ble_eq_true rfl) ⟨rfl, rfl⟩ ⟨by decide, by decide⟩ ⟨by decide, by decide⟩ d_X0_find_160 ?_
    refine j_bind (fun r20 h21 => ?_)
    refine j_callV (y := y_X0_keep) (I' := i_X0_keep) (avs := [.inr (.inr (x0 + 13)), .inl r18]) (c := x0) (st := []) (c_X0_keep G x0 (x0 + 13) r18 M0 r20 h21) cs_Factors_86 wd_628 wd_630 ws_16 hg_x0 rfl rfl rfl (Nat.le_of_ble_eq_true rfl) ⟨rfl, rfl⟩ ⟨by decide, by decide⟩ ⟨by decide, by decide⟩ d_X0_find_163 ?_
    refine j_iconst ⟨by decide, by decide⟩ d_X0_find_166 ?_
    exact j_zret d_X0_find_167 rfl (Or.inr rfl) rfl ⟨rfl, rfl⟩
def f_X0_find_84B (x0 : Int) (rec_84 : Int → tp_M → Option (Int × tp_M)) (x3 : Int) (M0 : tp_M) : Option (Int × tp_M) :=
  if 9 ≤ x3 then
    f_X0_find_141 x0 M0
  else
    (f_X10_degreeOf (x0 + 13) M0).bind fun r22 =>
    if r22 < (tp_w (2 * x3)) then
      f_X0_find_141 x0 M0
    else
      (f_X0_raiseImage x0 M0).bind fun r25 =>
      (f_X0_takeCommon x0 r25).bind fun r27 =>
      (f_X0_findOfDegree x0 x3 r27).bind fun r29 =>
      (f_X10_degreeOf (x0 + 13) r29).bind fun r31 =>
      (f_X0_keepRemainder x0 (x0 + 14) (x0 + 13) r31 r29).bind fun r33 =>
      tp_lt (tp_w (x3 + 1)) fun y35 =>
      rec_84 y35 r33
set_option maxHeartbeats 4000000 in
set_option maxRecDepth 100000 in
theorem T_X0_find_84B (G : tp_G) (x0 : Int) (hg_x0 : tp_tg x0 = 0) (rec_84 : Int → tp_M → Option (Int × tp_M)) (hrec_84 : ∀ (x3' : Int) (M' : tp_M), tp_J i_X0_find (tp_rm 4) G 0 0 o_X0_find tp_NC (tp_st M') 0 0 [some (.inr (.inr x0)), none, none, some (.inl (x3'))] 84 [] (rec_84 x3' M')) (x3 : Int) (M0 : tp_M) : tp_J i_X0_find (tp_rm 4) G 0 0 o_X0_find tp_NC (tp_st M0) 0 0 [some (.inr (.inr x0)), none, none, some (.inl x3)] 84 [] (f_X0_find_84B x0 rec_84 x3 M0) := by
  unfold f_X0_find_84B
  refine j_iload_n rfl d_X0_find_84 rfl ?_
  refine j_bipush ⟨by decide, by decide⟩ (by decide +kernel) d_X0_find_85 ?_
  refine j_icmp_ge (tgt := 141) d_X0_find_87 (by decide) (fun h14 => ?_) (fun h14 => ?_)
  · exact j_wk [true, false, false, false] rfl rfl (T_X0_find_141 G x0 M0 hg_x0)
  · refine j_iconst ⟨by decide, by decide⟩ d_X0_find_90 ?_
    refine j_iload_n rfl d_X0_find_91 rfl ?_
    refine j_imul d_X0_find_92 ?_
    refine j_aload_n rfl d_X0_find_93 rfl ?_
    refine j_getr fl_Factors_23 hg_x0 (fam_0_5 _ hg_x0).1 d_X0_find_94 ?_
    refine j_bind (fun r22 h23 => ?_)
    refine j_callSN (y := y_X10_degreeOf) (I' := i_X10_degreeOf) (avs := [.inr (.inr (x0 + 13))]) (st := [.inl (tp_w (2 * x3))]) (c_X10_degreeOf G (x0 + 13) M0 r22 h23) cs_Factors_58 (by decide +kernel : (.methodLinkNest "TypesAtPrime$Factors" 58 ⟨"TypesAtPrime", "degreeOf", "([I)I"⟩ "TypesAtPrime" : Cond) ∈ tp_nest) wd_517 rfl rfl (Nat.le_of_ble_eq_true rfl) ⟨rfl, rfl⟩ ⟨by decide, by decide⟩ ⟨by decide, by decide⟩ d_X0_find_97 ?_
    refine j_icmp_gt (tgt := 141) d_X0_find_100 (by decide) (fun h24 => ?_) (fun h24 => ?_)
    · exact j_wk [true, false, false, false] rfl rfl (T_X0_find_141 G x0 M0 hg_x0)
    · refine j_aload_n rfl d_X0_find_103 rfl ?_
      refine j_bind (fun r25 h26 => ?_)
      refine j_callV (y := y_X0_raiseImage) (I' := i_X0_raiseImage) (avs := []) (c := x0) (st := []) (c_X0_raiseImage G x0 M0 r25 h26) cs_Factors_72 wd_588 wd_590 ws_9 hg_x0 rfl rfl rfl (Nat.le_of_ble_eq_true rfl) ⟨rfl, rfl⟩ ⟨by decide, by decide⟩ ⟨by decide, by decide⟩ d_X0_find_104 ?_
      refine j_aload_n rfl d_X0_find_107 rfl ?_
      refine j_bind (fun r27 h28 => ?_)
      refine j_callV (y := y_X0_takeCommon) (I' := i_X0_takeCommon) (avs := []) (c := x0) (st := []) (c_X0_takeCommon G x0 r25 r27 h28) cs_Factors_75 wd_606 wd_608 ws_12 hg_x0 rfl rfl rfl (Nat.le_of_ble_eq_true rfl) ⟨rfl, rfl⟩ ⟨by decide, by decide⟩ ⟨by decide, by decide⟩ d_X0_find_108 ?_
      refine j_aload_n rfl d_X0_find_111 rfl ?_
      refine j_iload_n rfl d_X0_find_112 rfl ?_
      refine j_bind (fun r29 h30 => ?_)
      refine j_callV (y := y_X0_findOfDegree) (I' := i_X0_findOfDegree) (avs := [.inl x3]) (c := x0) (st := []) (c_X0_findOfDegree G x0 x3 r27 r29 h30) cs_Factors_78 wd_610 wd_612 ws_13 hg_x0 rfl rfl rfl (Nat.le_of_ble_eq_true rfl) ⟨rfl, rfl⟩ ⟨by decide, by decide⟩ ⟨by decide, by decide⟩ d_X0_find_113 ?_
      refine j_aload_n rfl d_X0_find_116 rfl ?_
      refine j_aload_n rfl d_X0_find_117 rfl ?_
      refine j_getr fl_Factors_26 hg_x0 (fam_0_6 _ hg_x0).1 d_X0_find_118 ?_
      refine j_aload_n rfl d_X0_find_121 rfl ?_
      refine j_getr fl_Factors_23 hg_x0 (fam_0_5 _ hg_x0).1 d_X0_find_122 ?_
      refine j_aload_n rfl d_X0_find_125 rfl ?_
      refine j_getr fl_Factors_23 hg_x0 (fam_0_5 _ hg_x0).1 d_X0_find_126 ?_
      refine j_bind (fun r31 h32 => ?_)
      refine j_callSN (y := y_X10_degreeOf) (I' := i_X10_degreeOf) (avs := [.inr (.inr (x0 + 13))]) (st := [.inr (.inr (x0 + 13)), .inr (.inr (x0 + 14)), .inr (.inr x0)]) (c_X10_degreeOf G (x0 + 13) r29 r31 h32) cs_Factors_58 (by decide +kernel : (.methodLinkNest "TypesAtPrime$Factors" 58 ⟨"TypesAtPrime", "degreeOf", "([I)I"⟩ "TypesAtPrime" : Cond) ∈ tp_nest) wd_517 rfl rfl (Nat.le_of_ble_eq_true rfl) ⟨rfl, rfl⟩ ⟨by decide, by decide⟩ ⟨by decide, by decide⟩ d_X0_find_129 ?_
      refine j_bind (fun r33 h34 => ?_)
      refine j_callV (y := y_X0_keepRemainder) (I' := i_X0_keepRemainder) (avs := [.inr (.inr (x0 + 14)), .inr (.inr (x0 + 13)), .inl r31]) (c := x0) (st := []) (c_X0_keepRemainder G x0 (x0 + 14) (x0 + 13) r31 r29 r33 h34) cs_Factors_82 wd_595 wd_597 ws_10 hg_x0 rfl rfl rfl (Nat.le_of_ble_eq_true rfl) ⟨rfl, rfl⟩ ⟨by decide, by decide⟩ ⟨by decide, by decide⟩ d_X0_find_132 ?_
      refine j_iincN (lv' := fun y35 => [some (.inr (.inr x0)), none, none, some (.inl y35)]) d_X0_find_135 rfl (Nat.le_of_ble_eq_true rfl) (fun _ => rfl) (fun y35 hy35 => ?_)
      refine j_goto (tgt := 84) d_X0_find_138 (by decide) ?_
      exact j_wk [true, false, false, true] rfl rfl (hrec_84 y35 r33)
def f_X0_find_84 (x0 : Int) (x3 : Int) (M0 : tp_M) : Option (Int × tp_M) := tp_lp (σ := Int × tp_M) (fun rec_ u => f_X0_find_84B x0 (fun x3' M0' => rec_ (x3', M0')) u.1 u.2) tp_N (x3, M0)
set_option maxHeartbeats 4000000 in
set_option maxRecDepth 100000 in
theorem T_X0_find_84 (G : tp_G) (x0 : Int) (x3 : Int) (M0 : tp_M) (hg_x0 : tp_tg x0 = 0) : tp_J i_X0_find (tp_rm 4) G 0 0 o_X0_find tp_NC (tp_st M0) 0 0 [some (.inr (.inr x0)), none, none, some (.inl x3)] 84 [] (f_X0_find_84 x0 x3 M0) := by
  unfold f_X0_find_84
  exact j_lp (σ := Int × tp_M) (n' := fun _ => tp_NC) (g' := fun u => tp_st u.2) (k' := fun _ => 0) (q' := fun _ => 0) (lv' := fun u => [some (.inr (.inr x0)), none, none, some (.inl u.1)]) (fun rec_ hrec u => T_X0_find_84B G x0 hg_x0 (fun x3' M0' => rec_ (x3', M0')) (fun x3' M0' => hrec (x3', M0')) u.1 u.2) tp_N (x3, M0)
def f_X0_find_40 (rec_12 : Int → tp_M → Option (Int × tp_M)) (x0 : Int) (x1 : Int) (x3 : Int) (s0 : Int) (s1 : Int) (s2 : Int) (M0 : tp_M) : Option (Int × tp_M) :=
  if 0 ≤ s1 ∧ s1 < 9 then
    tp_mp (tp_up M0 s2 s1 s0) fun M37 =>
    tp_lt (tp_w (x3 + 1)) fun y38 =>
    rec_12 y38 M37 else none
set_option maxHeartbeats 4000000 in
set_option maxRecDepth 100000 in
theorem T_X0_find_40 (G : tp_G) (rec_12 : Int → tp_M → Option (Int × tp_M)) (x0 : Int) (x1 : Int) (x3 : Int) (s0 : Int) (s1 : Int) (s2 : Int) (M0 : tp_M) (hrec_12 : ∀ (x3' : Int) (M' : tp_M), tp_J i_X0_find (tp_rm 4) G 0 0 o_X0_find tp_NC (tp_st M') 0 0 [some (.inr (.inr x0)), some (.inr (.inr x1)), none, some (.inl (x3'))] 12 [] (rec_12 x3' M')) (hg_x0 : tp_tg x0 = 0) (hg_x1 : tp_tg x1 = 21) (hg_s2 : tp_tg s2 = 21) (hn_s2 : tp_al s2 = 9) : tp_J i_X0_find (tp_rm 4) G 0 0 o_X0_find tp_NC (tp_st M0) 0 0 [some (.inr (.inr x0)), some (.inr (.inr x1)), none, some (.inl x3)] 40 [.inl s0, .inl s1, .inr (.inr s2)] (f_X0_find_40 rec_12 x0 x1 x3 s0 s1 s2 M0) := by
  unfold f_X0_find_40
  refine j_iast hg_s2 hn_s2 d_X0_find_40 (fun M37 hM37 => ?_)
  refine j_iincN (lv' := fun y38 => [some (.inr (.inr x0)), some (.inr (.inr x1)), none, some (.inl y38)]) d_X0_find_41 rfl (Nat.le_of_ble_eq_true rfl) (fun _ => rfl) (fun y38 hy38 => ?_)
  refine j_goto (tgt := 12) d_X0_find_44 (by decide) ?_
  exact j_wk [true, true, false, true] rfl rfl (hrec_12 y38 M37)
def f_X0_find_12B (x0 : Int) (x1 : Int) (rec_12 : Int → tp_M → Option (Int × tp_M)) (x3 : Int) (M0 : tp_M) : Option (Int × tp_M) :=
  if 9 ≤ x3 then
    (f_X10_degreeOf (x0 + 13) M0).bind fun r6 =>
    if 0 ≤ r6 then
      (f_X0_makeMonic x0 (x0 + 13) M0).bind fun r9 =>
      (f_J7_fill_53178 (x0 + 14) 0 r9).bind fun r11 =>
      if (0 : Int) ≤ 1 ∧ (1 : Int) < 9 then
        tp_mp (tp_up r11 (x0 + 14) 1 1) fun M13 =>
        f_X0_find_84 x0 1 M13 else none
    else
      some (0, M0)
  else
    if (tp_al x1) ≤ x3 then
      f_X0_find_40 rec_12 x0 x1 x3 0 x3 (x0 + 13) M0
    else
      if 0 ≤ x3 ∧ x3 < tp_al x1 then
        (f_X0_residue x0 (M0 x1 x3) M0).bind fun r39 =>
        f_X0_find_40 rec_12 x0 x1 x3 r39 x3 (x0 + 13) M0 else none
set_option maxHeartbeats 4000000 in
set_option maxRecDepth 100000 in
theorem T_X0_find_12B (G : tp_G) (x0 : Int) (x1 : Int) (hg_x0 : tp_tg x0 = 0) (hg_x1 : tp_tg x1 = 21) (rec_12 : Int → tp_M → Option (Int × tp_M)) (hrec_12 : ∀ (x3' : Int) (M' : tp_M), tp_J i_X0_find (tp_rm 4) G 0 0 o_X0_find tp_NC (tp_st M') 0 0 [some (.inr (.inr x0)), some (.inr (.inr x1)), none, some (.inl (x3'))] 12 [] (rec_12 x3' M')) (x3 : Int) (M0 : tp_M) : tp_J i_X0_find (tp_rm 4) G 0 0 o_X0_find tp_NC (tp_st M0) 0 0 [some (.inr (.inr x0)), some (.inr (.inr x1)), none, some (.inl x3)] 12 [] (f_X0_find_12B x0 x1 rec_12 x3 M0) := by
  unfold f_X0_find_12B
  refine j_iload_n rfl d_X0_find_12 rfl ?_
  refine j_bipush ⟨by decide, by decide⟩ (by decide +kernel) d_X0_find_13 ?_
  refine j_icmp_ge (tgt := 47) d_X0_find_15 (by decide) (fun h5 => ?_) (fun h5 => ?_)
  · refine j_aload_n rfl d_X0_find_47 rfl ?_
    refine j_getr fl_Factors_23 hg_x0 (fam_0_5 _ hg_x0).1 d_X0_find_48 ?_
    refine j_bind (fun r6 h7 => ?_)
    refine j_callSN (y := y_X10_degreeOf) (I' := i_X10_degreeOf) (avs := [.inr (.inr (x0 + 13))]) (st := []) (c_X10_degreeOf G (x0 + 13) M0 r6 h7) cs_Factors_58 (by decide +kernel : (.methodLinkNest "TypesAtPrime$Factors" 58 ⟨"TypesAtPrime", "degreeOf", "([I)I"⟩ "TypesAtPrime" : Cond) ∈ tp_nest) wd_517 rfl rfl (Nat.le_of_ble_eq_true rfl) ⟨rfl, rfl⟩ ⟨by decide, by decide⟩ ⟨by decide, by decide⟩ d_X0_find_51 ?_
    refine j_if_ge (tgt := 59) d_X0_find_54 (by decide) (fun h8 => ?_) (fun h8 => ?_)
    · refine j_aload_n rfl d_X0_find_59 rfl ?_
      refine j_aload_n rfl d_X0_find_60 rfl ?_
      refine j_getr fl_Factors_23 hg_x0 (fam_0_5 _ hg_x0).1 d_X0_find_61 ?_
      refine j_bind (fun r9 h10 => ?_)
      refine j_callV (y := y_X0_makeMonic) (I' := i_X0_makeMonic) (avs := [.inr (.inr (x0 + 13))]) (c := x0) (st := []) (c_X0_makeMonic G x0 (x0 + 13) M0 r9 h10) cs_Factors_62 wd_583 wd_585 ws_8 hg_x0 rfl rfl rfl (Nat.le_of_ble_eq_true rfl) ⟨rfl, rfl⟩ ⟨by decide, by decide⟩ ⟨by decide, by decide⟩ d_X0_find_64 ?_
      refine j_aload_n rfl d_X0_find_67 rfl ?_
      refine j_getr fl_Factors_26 hg_x0 (fam_0_6 _ hg_x0).1 d_X0_find_68 ?_
      refine j_iconst ⟨by decide, by decide⟩ d_X0_find_71 ?_
      refine j_bind (fun r11 h12 => ?_)
      refine j_callS (y := y_J7_fill_53178) (I' := i_J7_fill_53178) (avs := [.inr (.inr (x0 + 14)), .inl 0]) (st := []) (c_J7_fill_53178 G (x0 + 14) 0 r9 r11 h12) cs_Factors_66 wd_587 wd_485 rfl rfl (Nat.le_of_ble_eq_true rfl) ⟨rfl, rfl⟩ ⟨by decide, by decide⟩ ⟨by decide, by decide⟩ d_X0_find_72 ?_
      refine j_aload_n rfl d_X0_find_75 rfl ?_
      refine j_getr fl_Factors_26 hg_x0 (fam_0_6 _ hg_x0).1 d_X0_find_76 ?_
      refine j_iconst ⟨by decide, by decide⟩ d_X0_find_79 ?_
      refine j_iconst ⟨by decide, by decide⟩ d_X0_find_80 ?_
      refine j_iast ((fam_0_6 _ hg_x0).2.1) ((fam_0_6 _ hg_x0).2.2) d_X0_find_81 (fun M13 hM13 => ?_)
      refine j_iconst ⟨by decide, by decide⟩ d_X0_find_82 ?_
      refine j_istore_n (lv' := [some (.inr (.inr x0)), some (.inr (.inr x1)), none, some (.inl 1)]) rfl d_X0_find_83 (Nat.le_of_ble_eq_true rfl) rfl ?_
      exact j_wk [true, false, false, true] rfl rfl (T_X0_find_84 G x0 1 M13 hg_x0)
    · refine j_iconst ⟨by decide, by decide⟩ d_X0_find_57 ?_
      exact j_zret d_X0_find_58 rfl (Or.inl rfl) rfl ⟨rfl, rfl⟩
  · refine j_aload_n rfl d_X0_find_18 rfl ?_
    refine j_getr fl_Factors_23 hg_x0 (fam_0_5 _ hg_x0).1 d_X0_find_19 ?_
    refine j_iload_n rfl d_X0_find_22 rfl ?_
    refine j_iload_n rfl d_X0_find_23 rfl ?_
    refine j_aload_n rfl d_X0_find_24 rfl ?_
    refine j_alen hg_x1 (by decide) rfl (tp_al_r _) (ty := .int) (by decide) d_X0_find_25 ?_
    refine j_icmp_ge (tgt := 39) d_X0_find_26 (by decide) (fun h36 => ?_) (fun h36 => ?_)
    · refine j_iconst ⟨by decide, by decide⟩ d_X0_find_39 ?_
      exact j_wk [true, true, false, true] rfl rfl (T_X0_find_40 G rec_12 x0 x1 x3 0 x3 (x0 + 13) M0 hrec_12 hg_x0 hg_x1 ((fam_0_5 _ hg_x0).2.1) ((fam_0_5 _ hg_x0).2.2))
    · refine j_aload_n rfl d_X0_find_29 rfl ?_
      refine j_aload_n rfl d_X0_find_30 rfl ?_
      refine j_iload_n rfl d_X0_find_31 rfl ?_
      refine j_iald hg_x1 rfl d_X0_find_32 ?_
      refine j_bind (fun r39 h40 => ?_)
      refine j_callV (y := y_X0_residue) (I' := i_X0_residue) (avs := [.inl (M0 x1 x3)]) (c := x0) (st := [.inl x3, .inr (.inr (x0 + 13))]) (c_X0_residue G x0 (M0 x1 x3) M0 r39 h40) cs_Factors_54 wd_578 wd_580 ws_7 hg_x0 rfl rfl rfl (Nat.le_of_ble_eq_true rfl) ⟨rfl, rfl⟩ ⟨by decide, by decide⟩ ⟨by decide, by decide⟩ d_X0_find_33 ?_
      refine j_goto (tgt := 40) d_X0_find_36 (by decide) ?_
      exact j_wk [true, true, false, true] rfl rfl (T_X0_find_40 G rec_12 x0 x1 x3 r39 x3 (x0 + 13) M0 hrec_12 hg_x0 hg_x1 ((fam_0_5 _ hg_x0).2.1) ((fam_0_5 _ hg_x0).2.2))
def f_X0_find_12 (x0 : Int) (x1 : Int) (x3 : Int) (M0 : tp_M) : Option (Int × tp_M) := tp_lp (σ := Int × tp_M) (fun rec_ u => f_X0_find_12B x0 x1 (fun x3' M0' => rec_ (x3', M0')) u.1 u.2) tp_N (x3, M0)
set_option maxHeartbeats 4000000 in
set_option maxRecDepth 100000 in
theorem T_X0_find_12 (G : tp_G) (x0 : Int) (x1 : Int) (x3 : Int) (M0 : tp_M) (hg_x0 : tp_tg x0 = 0) (hg_x1 : tp_tg x1 = 21) : tp_J i_X0_find (tp_rm 4) G 0 0 o_X0_find tp_NC (tp_st M0) 0 0 [some (.inr (.inr x0)), some (.inr (.inr x1)), none, some (.inl x3)] 12 [] (f_X0_find_12 x0 x1 x3 M0) := by
  unfold f_X0_find_12
  exact j_lp (σ := Int × tp_M) (n' := fun _ => tp_NC) (g' := fun u => tp_st u.2) (k' := fun _ => 0) (q' := fun _ => 0) (lv' := fun u => [some (.inr (.inr x0)), some (.inr (.inr x1)), none, some (.inl u.1)]) (fun rec_ hrec u => T_X0_find_12B G x0 x1 hg_x0 hg_x1 (fun x3' M0' => rec_ (x3', M0')) (fun x3' M0' => hrec (x3', M0')) u.1 u.2) tp_N (x3, M0)
def f_X0_find (c0 : Int) (a0 : Int) (a1 : Int) (M0 : tp_M) : Option (Int × tp_M) :=
  if tp_tg c0 = 0 then
    if tp_tg a0 = 21 then
      tp_mp (tp_up M0 c0 0 0) fun M3 =>
      tp_mp (tp_up M3 c0 4 a1) fun M4 =>
      f_X0_find_12 c0 a0 0 M4 else none else none
set_option maxHeartbeats 4000000 in
set_option maxRecDepth 100000 in
theorem T_X0_find (G : tp_G) (c0 : Int) (a0 : Int) (a1 : Int) (M0 : tp_M) : tp_J i_X0_find (tp_rm 4) G 0 0 o_X0_find tp_NC (tp_st M0) 0 0 [some (.inr (.inr c0)), some (.inr (.inr a0)), some (.inl a1), none] 0 [] (f_X0_find c0 a0 a1 M0) := by
  unfold f_X0_find
  refine tp_chk (fun ht1 => ?_)
  refine tp_chk (fun ht2 => ?_)
  refine j_aload_n rfl d_X0_find_0 rfl ?_
  refine j_iconst ⟨by decide, by decide⟩ d_X0_find_1 ?_
  refine j_put (z := 0) (v := 0) fl_Factors_47 (by decide) ht1 (pf_0_0 _) pt_0 d_X0_find_2 (fun M3 hM3 => ?_)
  refine j_aload_n rfl d_X0_find_5 rfl ?_
  refine j_iload_n rfl d_X0_find_6 rfl ?_
  refine j_put (z := 0) (v := a1) fl_Factors_51 (by decide) ht1 (pf_0_4 _) pt_0 d_X0_find_7 (fun M4 hM4 => ?_)
  refine j_iconst ⟨by decide, by decide⟩ d_X0_find_10 ?_
  refine j_istore_n (lv' := [some (.inr (.inr c0)), some (.inr (.inr a0)), some (.inl a1), some (.inl 0)]) rfl d_X0_find_11 (Nat.le_of_ble_eq_true rfl) rfl ?_
  exact j_wk [true, true, false, true] rfl rfl (T_X0_find_12 G c0 a0 0 M4 ht1 ht2)
set_option maxHeartbeats 4000000 in
set_option maxRecDepth 100000 in
theorem c_X0_find (G : tp_G) (c0 : Int) (a0 : Int) (a1 : Int) (M0 : tp_M) (r : Int × tp_M) (h : f_X0_find c0 a0 a1 M0 = some r) (l : Launch) : Met l y_X0_find (tp_ws y_X0_find i_X0_find) (tp_rm 4) (tp_Pc G [.inr (.inr c0), .inr (.inr a0), .inl a1] tp_NC (tp_st M0)) (tp_Q G (o_X0_find r)) 0 0 (tp_A G) :=
  tp_met (I := i_X0_find) (y := y_X0_find) (by decide +kernel) (Eq.refl "TypesAtPrime$Factors") (Eq.refl "find") (lv := [some (.inr (.inr c0)), some (.inr (.inr a0)), some (.inl a1), none]) rfl (Nat.le_of_ble_eq_true rfl) (T_X0_find G c0 a0 a1 M0) h l
theorem tg_1 : tp_tg 1 = 4 := by decide +kernel
theorem wd_40 : (.fieldLink "TypesAtPrime$Numbers" 18 "TypesAtPrime$Numbers" "size" "J" : Cond) ∈ lw_tbl := List.mem_append_right _ (List.mem_of_getElem? (i := 40) (by decide +kernel))
theorem fl_Numbers_18 : tp_F "TypesAtPrime$Numbers" 18 4 2 1 := ⟨_, _, _, rfl, by decide, rfl, wd_40, rfl, by decide⟩
def y_X4_rest : MethodName := ⟨"TypesAtPrime$Numbers", "rest", "(J)J"⟩
abbrev i_X4_rest : tp_I := (prog_6_method_3_code, "TypesAtPrime$Numbers", (some .long), 5, "rest")
abbrev o_X4_rest (M : tp_M) : Int → tp_O := fun r => (some (.inr (.inl r)), tp_NC, tp_st M)
theorem d_X4_rest_0 : decode prog_6_method_3_code 0 = .ok (.aload_n 0, 1) := by decide +kernel
theorem d_X4_rest_1 : decode prog_6_method_3_code 1 = .ok (.getfield 18, 3) := by decide +kernel
theorem d_X4_rest_4 : decode prog_6_method_3_code 4 = .ok (.lconst 0, 1) := by decide +kernel
theorem d_X4_rest_5 : decode prog_6_method_3_code 5 = .ok (.lcmp, 1) := by decide +kernel
theorem d_X4_rest_6 : decode prog_6_method_3_code 6 = .ok (.ifCond .gt 5, 3) := by decide +kernel
theorem d_X4_rest_9 : decode prog_6_method_3_code 9 = .ok (.lconst 0, 1) := by decide +kernel
theorem d_X4_rest_10 : decode prog_6_method_3_code 10 = .ok (.lreturn, 1) := by decide +kernel
theorem d_X4_rest_11 : decode prog_6_method_3_code 11 = .ok (.lload_n 1, 1) := by decide +kernel
theorem d_X4_rest_12 : decode prog_6_method_3_code 12 = .ok (.aload_n 0, 1) := by decide +kernel
theorem d_X4_rest_13 : decode prog_6_method_3_code 13 = .ok (.getfield 18, 3) := by decide +kernel
theorem d_X4_rest_16 : decode prog_6_method_3_code 16 = .ok (.lrem, 1) := by decide +kernel
theorem d_X4_rest_17 : decode prog_6_method_3_code 17 = .ok (.lstore_n 3, 1) := by decide +kernel
theorem d_X4_rest_18 : decode prog_6_method_3_code 18 = .ok (.lload_n 3, 1) := by decide +kernel
theorem d_X4_rest_19 : decode prog_6_method_3_code 19 = .ok (.lconst 0, 1) := by decide +kernel
theorem d_X4_rest_20 : decode prog_6_method_3_code 20 = .ok (.lcmp, 1) := by decide +kernel
theorem d_X4_rest_21 : decode prog_6_method_3_code 21 = .ok (.ifCond .ge 12, 3) := by decide +kernel
theorem d_X4_rest_24 : decode prog_6_method_3_code 24 = .ok (.lload_n 3, 1) := by decide +kernel
theorem d_X4_rest_25 : decode prog_6_method_3_code 25 = .ok (.aload_n 0, 1) := by decide +kernel
theorem d_X4_rest_26 : decode prog_6_method_3_code 26 = .ok (.getfield 18, 3) := by decide +kernel
theorem d_X4_rest_29 : decode prog_6_method_3_code 29 = .ok (.ladd, 1) := by decide +kernel
theorem d_X4_rest_30 : decode prog_6_method_3_code 30 = .ok (.goto 4, 3) := by decide +kernel
theorem d_X4_rest_33 : decode prog_6_method_3_code 33 = .ok (.lload_n 3, 1) := by decide +kernel
theorem d_X4_rest_34 : decode prog_6_method_3_code 34 = .ok (.lreturn, 1) := by decide +kernel
def f_X4_rest (a0 : Int) (M0 : tp_M) : Option (Int) :=
  if 0 < (M0 1 2) then
    if (M0 1 2) = 0 then none else
      tp_lt ((Int.tmod a0 (M0 1 2))) fun y2 =>
      if 0 ≤ y2 then
        some y2
      else
        some (tp_wl (y2 + (M0 1 2)))
  else
    some 0
set_option maxHeartbeats 4000000 in
set_option maxRecDepth 100000 in
theorem T_X4_rest (G : tp_G) (a0 : Int) (M0 : tp_M) : tp_J i_X4_rest (tp_rm 0) G 0 0 (o_X4_rest M0) tp_NC (tp_st M0) 0 0 [some (.inr (.inr 1)), some (.inr (.inl a0)), none, none, none] 0 [] (f_X4_rest a0 M0) := by
  unfold f_X4_rest
  refine j_aload_n rfl d_X4_rest_0 rfl ?_
  refine j_getl fl_Numbers_18 tg_1 d_X4_rest_1 ?_
  refine j_lconst (x := 0) ⟨by decide, by decide⟩ (by decide +kernel) d_X4_rest_4 ?_
  refine j_lcmp_gt (tgt := 11) d_X4_rest_5 rfl d_X4_rest_6 (by decide) (fun h1 => ?_) (fun h1 => ?_)
  · refine j_lload_n rfl d_X4_rest_11 rfl ?_
    refine j_aload_n rfl d_X4_rest_12 rfl ?_
    refine j_getl fl_Numbers_18 tg_1 d_X4_rest_13 ?_
    refine j_lrem d_X4_rest_16 ?_
    refine j_nmL (fun y2 hy2 => ?_)
    refine j_lstore_n (lv' := [some (.inr (.inr 1)), some (.inr (.inl a0)), none, some (.inr (.inl y2)), none]) rfl d_X4_rest_17 (Nat.le_of_ble_eq_true rfl) rfl ?_
    refine j_lload_n rfl d_X4_rest_18 rfl ?_
    refine j_lconst (x := 0) ⟨by decide, by decide⟩ (by decide +kernel) d_X4_rest_19 ?_
    refine j_lcmp_ge (tgt := 33) d_X4_rest_20 rfl d_X4_rest_21 (by decide) (fun h3 => ?_) (fun h3 => ?_)
    · refine j_lload_n rfl d_X4_rest_33 rfl ?_
      exact j_lret d_X4_rest_34 rfl rfl ⟨rfl, rfl⟩
    · refine j_lload_n rfl d_X4_rest_24 rfl ?_
      refine j_aload_n rfl d_X4_rest_25 rfl ?_
      refine j_getl fl_Numbers_18 tg_1 d_X4_rest_26 ?_
      refine j_ladd d_X4_rest_29 ?_
      refine j_goto (tgt := 34) d_X4_rest_30 (by decide) ?_
      exact j_lret d_X4_rest_34 rfl rfl ⟨rfl, rfl⟩
  · refine j_lconst (x := 0) ⟨by decide, by decide⟩ (by decide +kernel) d_X4_rest_9 ?_
    exact j_lret d_X4_rest_10 rfl rfl ⟨rfl, rfl⟩
set_option maxHeartbeats 4000000 in
set_option maxRecDepth 100000 in
theorem c_X4_rest (G : tp_G) (a0 : Int) (M0 : tp_M) (r : Int) (h : f_X4_rest a0 M0 = some r) (l : Launch) : Met l y_X4_rest (tp_ws y_X4_rest i_X4_rest) (tp_rm 0) (tp_Pc G [.inr (.inr 1), .inr (.inl a0)] tp_NC (tp_st M0)) (tp_Q G ((o_X4_rest M0) r)) 0 0 (tp_A G) :=
  tp_met (I := i_X4_rest) (y := y_X4_rest) (by decide +kernel) (Eq.refl "TypesAtPrime$Numbers") (Eq.refl "rest") (lv := [some (.inr (.inr 1)), some (.inr (.inl a0)), none, none, none]) rfl (Nat.le_of_ble_eq_true rfl) (T_X4_rest G a0 M0) h l
theorem tg_278 : tp_tg 278 = 1 := by decide +kernel
theorem wd_189 : (.fieldLink "TypesAtPrime$Grower" 174 "TypesAtPrime$Knot" "key" "[J" : Cond) ∈ lw_tbl := List.mem_append_right _ (List.mem_of_getElem? (i := 189) (by decide +kernel))
theorem fl_Grower_174 : tp_F "TypesAtPrime$Grower" 174 2 8 2 := ⟨_, _, _, rfl, by decide, rfl, wd_189, rfl, by decide⟩
theorem fam_2_8 : ∀ c : Int, tp_tg c = 2 → tp_rv c 8 = c + 1 ∧ tp_tg (c + 1) = 22 ∧ tp_al (c + 1) = 9 := by
  intro c hc
  obtain ⟨h0, xs, -, h2⟩ := tp_tg_at (t := 2) hc
  have h : (List.range tp_NC).all (fun i => decide (tp_tg (i : Int) = 2 → tp_rv (i : Int) 8 = (i : Int) + 1 ∧ tp_tg ((i : Int) + 1) = 22 ∧ tp_al ((i : Int) + 1) = 9)) = true := by decide +kernel
  have h3 := List.all_eq_true.mp h c.toNat (List.mem_range.mpr h2)
  have h4 : ((c.toNat : Nat) : Int) = c := by omega
  rw [h4] at h3
  exact of_decide_eq_true h3 hc
theorem wd_369 : (.fieldLink "TypesAtPrime$Grower" 53 "TypesAtPrime$Grower" "numbers" "LTypesAtPrime$Numbers;" : Cond) ∈ lw_tbl := List.mem_append_right _ (List.mem_of_getElem? (i := 369) (by decide +kernel))
theorem fl_Grower_53 : tp_F "TypesAtPrime$Grower" 53 1 0 2 := ⟨_, _, _, rfl, by decide, rfl, wd_369, rfl, by decide⟩
theorem rv_278_0 : tp_rv 278 0 = 1 := by decide +kernel
theorem wd_371 : (.fieldLink "TypesAtPrime$Grower" 12 "TypesAtPrime$Grower" "path" "LTypesAtPrime$Path;" : Cond) ∈ lw_tbl := List.mem_append_right _ (List.mem_of_getElem? (i := 371) (by decide +kernel))
theorem fl_Grower_12 : tp_F "TypesAtPrime$Grower" 12 1 2 2 := ⟨_, _, _, rfl, by decide, rfl, wd_371, rfl, by decide⟩
theorem tg_279 : tp_tg 279 = 5 := by decide +kernel
theorem rv_278_2 : tp_rv 278 2 = 279 := by decide +kernel
theorem wd_348 : (.fieldLink "TypesAtPrime$Grower" 108 "TypesAtPrime$Path" "root" "[I" : Cond) ∈ lw_tbl := List.mem_append_right _ (List.mem_of_getElem? (i := 348) (by decide +kernel))
theorem fl_Grower_108 : tp_F "TypesAtPrime$Grower" 108 5 3 2 := ⟨_, _, _, rfl, by decide, rfl, wd_348, rfl, by decide⟩
theorem tg_283 : tp_tg 283 = 21 := by decide +kernel
theorem al_283 : tp_al 283 = 8 := by decide +kernel
theorem rv_279_3 : tp_rv 279 3 = 283 := by decide +kernel
theorem wd_564 : (.code ⟨"TypesAtPrime$Numbers", "rest", "(J)J"⟩ prog_6_method_3_code 5 (some .long) : Cond) ∈ lw_tbl := List.mem_append_right _ (List.mem_of_getElem? (i := 564) (by decide +kernel))
theorem wd_2 : (.initialized "TypesAtPrime$Numbers" : Cond) ∈ lw_tbl := List.mem_append_right _ (List.mem_of_getElem? (i := 2) (by decide +kernel))
theorem cs_Grower_67 : tp_CS "TypesAtPrime$Grower" 67 y_X4_rest i_X4_rest 1 := ⟨wd_564, wd_2, by decide, by decide, by decide +kernel⟩
theorem wd_641 : (.methodLink "TypesAtPrime$Grower" 67 ⟨"TypesAtPrime$Numbers", "rest", "(J)J"⟩ : Cond) ∈ lw_tbl := List.mem_append_right _ (List.mem_of_getElem? (i := 641) (by decide +kernel))
theorem wd_562 : (.instanceMethod ⟨"TypesAtPrime$Numbers", "rest", "(J)J"⟩ : Cond) ∈ lw_tbl := List.mem_append_right _ (List.mem_of_getElem? (i := 562) (by decide +kernel))
theorem wd_563 : (.selects "TypesAtPrime$Numbers" ⟨"TypesAtPrime$Numbers", "rest", "(J)J"⟩ ⟨"TypesAtPrime$Numbers", "rest", "(J)J"⟩ : Cond) ∈ lw_tbl := List.mem_append_right _ (List.mem_of_getElem? (i := 563) (by decide +kernel))
def y_X1_writeFirstKey : MethodName := ⟨"TypesAtPrime$Grower", "writeFirstKey", "(LTypesAtPrime$Knot;)V"⟩
abbrev i_X1_writeFirstKey : tp_I := (prog_3_method_5_code, "TypesAtPrime$Grower", none, 2, "writeFirstKey")
abbrev o_X1_writeFirstKey : tp_M → tp_O := fun r => (none, tp_NC, tp_st r)
theorem d_X1_writeFirstKey_0 : decode prog_3_method_5_code 0 = .ok (.aload_n 1, 1) := by decide +kernel
theorem d_X1_writeFirstKey_1 : decode prog_3_method_5_code 1 = .ok (.getfield 174, 3) := by decide +kernel
theorem d_X1_writeFirstKey_4 : decode prog_3_method_5_code 4 = .ok (.iconst 0, 1) := by decide +kernel
theorem d_X1_writeFirstKey_5 : decode prog_3_method_5_code 5 = .ok (.aload_n 0, 1) := by decide +kernel
theorem d_X1_writeFirstKey_6 : decode prog_3_method_5_code 6 = .ok (.getfield 53, 3) := by decide +kernel
theorem d_X1_writeFirstKey_9 : decode prog_3_method_5_code 9 = .ok (.aload_n 0, 1) := by decide +kernel
theorem d_X1_writeFirstKey_10 : decode prog_3_method_5_code 10 = .ok (.getfield 12, 3) := by decide +kernel
theorem d_X1_writeFirstKey_13 : decode prog_3_method_5_code 13 = .ok (.getfield 108, 3) := by decide +kernel
theorem d_X1_writeFirstKey_16 : decode prog_3_method_5_code 16 = .ok (.iconst 0, 1) := by decide +kernel
theorem d_X1_writeFirstKey_17 : decode prog_3_method_5_code 17 = .ok (.iaload, 1) := by decide +kernel
theorem d_X1_writeFirstKey_18 : decode prog_3_method_5_code 18 = .ok (.ineg, 1) := by decide +kernel
theorem d_X1_writeFirstKey_19 : decode prog_3_method_5_code 19 = .ok (.i2l, 1) := by decide +kernel
theorem d_X1_writeFirstKey_20 : decode prog_3_method_5_code 20 = .ok (.invokevirtual 67, 3) := by decide +kernel
theorem d_X1_writeFirstKey_23 : decode prog_3_method_5_code 23 = .ok (.lastore, 1) := by decide +kernel
theorem d_X1_writeFirstKey_24 : decode prog_3_method_5_code 24 = .ok (.aload_n 1, 1) := by decide +kernel
theorem d_X1_writeFirstKey_25 : decode prog_3_method_5_code 25 = .ok (.getfield 174, 3) := by decide +kernel
theorem d_X1_writeFirstKey_28 : decode prog_3_method_5_code 28 = .ok (.iconst 1, 1) := by decide +kernel
theorem d_X1_writeFirstKey_29 : decode prog_3_method_5_code 29 = .ok (.lconst 1, 1) := by decide +kernel
theorem d_X1_writeFirstKey_30 : decode prog_3_method_5_code 30 = .ok (.lastore, 1) := by decide +kernel
theorem d_X1_writeFirstKey_31 : decode prog_3_method_5_code 31 = .ok (.return_, 1) := by decide +kernel
def f_X1_writeFirstKey (a0 : Int) (M0 : tp_M) : Option (tp_M) :=
  if tp_tg a0 = 2 then
    if (0 : Int) ≤ 0 ∧ (0 : Int) < 8 then
      (f_X4_rest (tp_w (-(M0 283 0))) M0).bind fun r2 =>
      if (0 : Int) ≤ 0 ∧ (0 : Int) < 9 then
        tp_mp (tp_up M0 (a0 + 1) 0 r2) fun M4 =>
        if (0 : Int) ≤ 1 ∧ (1 : Int) < 9 then
          tp_mp (tp_up M4 (a0 + 1) 1 1) fun M5 =>
          some M5 else none else none else none else none
set_option maxHeartbeats 4000000 in
set_option maxRecDepth 100000 in
theorem T_X1_writeFirstKey (G : tp_G) (a0 : Int) (M0 : tp_M) : tp_J i_X1_writeFirstKey (tp_rm 1) G 0 0 o_X1_writeFirstKey tp_NC (tp_st M0) 0 0 [some (.inr (.inr 278)), some (.inr (.inr a0))] 0 [] (f_X1_writeFirstKey a0 M0) := by
  unfold f_X1_writeFirstKey
  refine tp_chk (fun ht1 => ?_)
  refine j_aload_n rfl d_X1_writeFirstKey_0 rfl ?_
  refine j_getr fl_Grower_174 ht1 (fam_2_8 _ ht1).1 d_X1_writeFirstKey_1 ?_
  refine j_iconst ⟨by decide, by decide⟩ d_X1_writeFirstKey_4 ?_
  refine j_aload_n rfl d_X1_writeFirstKey_5 rfl ?_
  refine j_getr fl_Grower_53 tg_278 rv_278_0 d_X1_writeFirstKey_6 ?_
  refine j_aload_n rfl d_X1_writeFirstKey_9 rfl ?_
  refine j_getr fl_Grower_12 tg_278 rv_278_2 d_X1_writeFirstKey_10 ?_
  refine j_getr fl_Grower_108 tg_279 rv_279_3 d_X1_writeFirstKey_13 ?_
  refine j_iconst ⟨by decide, by decide⟩ d_X1_writeFirstKey_16 ?_
  refine j_iald tg_283 al_283 d_X1_writeFirstKey_17 ?_
  refine j_ineg d_X1_writeFirstKey_18 ?_
  refine j_i2l d_X1_writeFirstKey_19 ?_
  refine j_bind (fun r2 h3 => ?_)
  refine j_callV (y := y_X4_rest) (I' := i_X4_rest) (avs := [.inr (.inl (tp_w (-(M0 283 0))))]) (c := 1) (st := [.inl 0, .inr (.inr (a0 + 1))]) (c_X4_rest G (tp_w (-(M0 283 0))) M0 r2 h3) cs_Grower_67 wd_641 wd_562 wd_563 tg_1 rfl rfl rfl (Nat.le_of_ble_eq_true rfl) ⟨rfl, rfl⟩ ⟨by decide, by decide⟩ ⟨by decide, by decide⟩ d_X1_writeFirstKey_20 ?_
  refine j_last ((fam_2_8 _ ht1).2.1) ((fam_2_8 _ ht1).2.2) d_X1_writeFirstKey_23 (fun M4 hM4 => ?_)
  refine j_aload_n rfl d_X1_writeFirstKey_24 rfl ?_
  refine j_getr fl_Grower_174 ht1 (fam_2_8 _ ht1).1 d_X1_writeFirstKey_25 ?_
  refine j_iconst ⟨by decide, by decide⟩ d_X1_writeFirstKey_28 ?_
  refine j_lconst (x := 1) ⟨by decide, by decide⟩ (by decide +kernel) d_X1_writeFirstKey_29 ?_
  refine j_last ((fam_2_8 _ ht1).2.1) ((fam_2_8 _ ht1).2.2) d_X1_writeFirstKey_30 (fun M5 hM5 => ?_)
  exact j_vret d_X1_writeFirstKey_31 rfl rfl ⟨rfl, rfl⟩
set_option maxHeartbeats 4000000 in
set_option maxRecDepth 100000 in
theorem c_X1_writeFirstKey (G : tp_G) (a0 : Int) (M0 : tp_M) (r : tp_M) (h : f_X1_writeFirstKey a0 M0 = some r) (l : Launch) : Met l y_X1_writeFirstKey (tp_ws y_X1_writeFirstKey i_X1_writeFirstKey) (tp_rm 1) (tp_Pc G [.inr (.inr 278), .inr (.inr a0)] tp_NC (tp_st M0)) (tp_Q G (o_X1_writeFirstKey r)) 0 0 (tp_A G) :=
  tp_met (I := i_X1_writeFirstKey) (y := y_X1_writeFirstKey) (by decide +kernel) (Eq.refl "TypesAtPrime$Grower") (Eq.refl "writeFirstKey") (lv := [some (.inr (.inr 278)), some (.inr (.inr a0))]) rfl (Nat.le_of_ble_eq_true rfl) (T_X1_writeFirstKey G a0 M0) h l
def y_J7_fill_d0a16 : MethodName := ⟨"java/util/Arrays", "fill", "([JJ)V"⟩
abbrev i_J7_fill_d0a16 : tp_I := (prog_19_method_101_code, "java/util/Arrays", none, 5, "fill")
abbrev o_J7_fill_d0a16 : tp_M → tp_O := fun r => (none, tp_NC, tp_st r)
theorem d_J7_fill_d0a16_0 : decode prog_19_method_101_code 0 = .ok (.iconst 0, 1) := by decide +kernel
theorem d_J7_fill_d0a16_1 : decode prog_19_method_101_code 1 = .ok (.istore_n 3, 1) := by decide +kernel
theorem d_J7_fill_d0a16_2 : decode prog_19_method_101_code 2 = .ok (.aload_n 0, 1) := by decide +kernel
theorem d_J7_fill_d0a16_3 : decode prog_19_method_101_code 3 = .ok (.arraylength, 1) := by decide +kernel
theorem d_J7_fill_d0a16_4 : decode prog_19_method_101_code 4 = .ok (.istore 4, 2) := by decide +kernel
theorem d_J7_fill_d0a16_6 : decode prog_19_method_101_code 6 = .ok (.iload_n 3, 1) := by decide +kernel
theorem d_J7_fill_d0a16_7 : decode prog_19_method_101_code 7 = .ok (.iload 4, 2) := by decide +kernel
theorem d_J7_fill_d0a16_9 : decode prog_19_method_101_code 9 = .ok (.if_icmp .ge 13, 3) := by decide +kernel
theorem d_J7_fill_d0a16_12 : decode prog_19_method_101_code 12 = .ok (.aload_n 0, 1) := by decide +kernel
theorem d_J7_fill_d0a16_13 : decode prog_19_method_101_code 13 = .ok (.iload_n 3, 1) := by decide +kernel
theorem d_J7_fill_d0a16_14 : decode prog_19_method_101_code 14 = .ok (.lload_n 1, 1) := by decide +kernel
theorem d_J7_fill_d0a16_15 : decode prog_19_method_101_code 15 = .ok (.lastore, 1) := by decide +kernel
theorem d_J7_fill_d0a16_16 : decode prog_19_method_101_code 16 = .ok (.iinc 3 1, 3) := by decide +kernel
theorem d_J7_fill_d0a16_19 : decode prog_19_method_101_code 19 = .ok (.goto (-13), 3) := by decide +kernel
theorem d_J7_fill_d0a16_22 : decode prog_19_method_101_code 22 = .ok (.return_, 1) := by decide +kernel
def f_J7_fill_d0a16_6B (x0 : Int) (x1 : Int) (x4 : Int) (rec_6 : Int → tp_M → Option (tp_M)) (x3 : Int) (M0 : tp_M) : Option (tp_M) :=
  if x4 ≤ x3 then
    some M0
  else
    if 0 ≤ x3 ∧ x3 < tp_al x0 then
      tp_mp (tp_up M0 x0 x3 x1) fun M4 =>
      tp_lt (tp_w (x3 + 1)) fun y5 =>
      rec_6 y5 M4 else none
set_option maxHeartbeats 4000000 in
set_option maxRecDepth 100000 in
theorem T_J7_fill_d0a16_6B (G : tp_G) (x0 : Int) (x1 : Int) (x4 : Int) (hg_x0 : tp_tg x0 = 22) (rec_6 : Int → tp_M → Option (tp_M)) (hrec_6 : ∀ (x3' : Int) (M' : tp_M), tp_J i_J7_fill_d0a16 (tp_rm 0) G 0 0 o_J7_fill_d0a16 tp_NC (tp_st M') 0 0 [some (.inr (.inr x0)), some (.inr (.inl x1)), none, some (.inl (x3')), some (.inl x4)] 6 [] (rec_6 x3' M')) (x3 : Int) (M0 : tp_M) : tp_J i_J7_fill_d0a16 (tp_rm 0) G 0 0 o_J7_fill_d0a16 tp_NC (tp_st M0) 0 0 [some (.inr (.inr x0)), some (.inr (.inl x1)), none, some (.inl x3), some (.inl x4)] 6 [] (f_J7_fill_d0a16_6B x0 x1 x4 rec_6 x3 M0) := by
  unfold f_J7_fill_d0a16_6B
  refine j_iload_n rfl d_J7_fill_d0a16_6 rfl ?_
  refine j_iload d_J7_fill_d0a16_7 rfl ?_
  refine j_icmp_ge (tgt := 22) d_J7_fill_d0a16_9 (by decide) (fun h3 => ?_) (fun h3 => ?_)
  · exact j_vret d_J7_fill_d0a16_22 rfl rfl ⟨rfl, rfl⟩
  · refine j_aload_n rfl d_J7_fill_d0a16_12 rfl ?_
    refine j_iload_n rfl d_J7_fill_d0a16_13 rfl ?_
    refine j_lload_n rfl d_J7_fill_d0a16_14 rfl ?_
    refine j_last hg_x0 rfl d_J7_fill_d0a16_15 (fun M4 hM4 => ?_)
    refine j_iincN (lv' := fun y5 => [some (.inr (.inr x0)), some (.inr (.inl x1)), none, some (.inl y5), some (.inl x4)]) d_J7_fill_d0a16_16 rfl (Nat.le_of_ble_eq_true rfl) (fun _ => rfl) (fun y5 hy5 => ?_)
    refine j_goto (tgt := 6) d_J7_fill_d0a16_19 (by decide) ?_
    exact j_wk [true, true, false, true, true] rfl rfl (hrec_6 y5 M4)
def f_J7_fill_d0a16_6 (x0 : Int) (x1 : Int) (x3 : Int) (x4 : Int) (M0 : tp_M) : Option (tp_M) := tp_lp (σ := Int × tp_M) (fun rec_ u => f_J7_fill_d0a16_6B x0 x1 x4 (fun x3' M0' => rec_ (x3', M0')) u.1 u.2) tp_N (x3, M0)
set_option maxHeartbeats 4000000 in
set_option maxRecDepth 100000 in
theorem T_J7_fill_d0a16_6 (G : tp_G) (x0 : Int) (x1 : Int) (x3 : Int) (x4 : Int) (M0 : tp_M) (hg_x0 : tp_tg x0 = 22) : tp_J i_J7_fill_d0a16 (tp_rm 0) G 0 0 o_J7_fill_d0a16 tp_NC (tp_st M0) 0 0 [some (.inr (.inr x0)), some (.inr (.inl x1)), none, some (.inl x3), some (.inl x4)] 6 [] (f_J7_fill_d0a16_6 x0 x1 x3 x4 M0) := by
  unfold f_J7_fill_d0a16_6
  exact j_lp (σ := Int × tp_M) (n' := fun _ => tp_NC) (g' := fun u => tp_st u.2) (k' := fun _ => 0) (q' := fun _ => 0) (lv' := fun u => [some (.inr (.inr x0)), some (.inr (.inl x1)), none, some (.inl u.1), some (.inl x4)]) (fun rec_ hrec u => T_J7_fill_d0a16_6B G x0 x1 x4 hg_x0 (fun x3' M0' => rec_ (x3', M0')) (fun x3' M0' => hrec (x3', M0')) u.1 u.2) tp_N (x3, M0)
def f_J7_fill_d0a16 (a0 : Int) (a1 : Int) (M0 : tp_M) : Option (tp_M) :=
  if tp_tg a0 = 22 then
    tp_lt ((tp_al a0)) fun y2 =>
    f_J7_fill_d0a16_6 a0 a1 0 y2 M0 else none
set_option maxHeartbeats 4000000 in
set_option maxRecDepth 100000 in
theorem T_J7_fill_d0a16 (G : tp_G) (a0 : Int) (a1 : Int) (M0 : tp_M) : tp_J i_J7_fill_d0a16 (tp_rm 0) G 0 0 o_J7_fill_d0a16 tp_NC (tp_st M0) 0 0 [some (.inr (.inr a0)), some (.inr (.inl a1)), none, none, none] 0 [] (f_J7_fill_d0a16 a0 a1 M0) := by
  unfold f_J7_fill_d0a16
  refine tp_chk (fun ht1 => ?_)
  refine j_iconst ⟨by decide, by decide⟩ d_J7_fill_d0a16_0 ?_
  refine j_istore_n (lv' := [some (.inr (.inr a0)), some (.inr (.inl a1)), none, some (.inl 0), none]) rfl d_J7_fill_d0a16_1 (Nat.le_of_ble_eq_true rfl) rfl ?_
  refine j_aload_n rfl d_J7_fill_d0a16_2 rfl ?_
  refine j_alen ht1 (by decide) rfl (tp_al_r _) (ty := .long) (by decide) d_J7_fill_d0a16_3 ?_
  refine j_nmI (fun y2 hy2 => ?_)
  refine j_istore (lv' := [some (.inr (.inr a0)), some (.inr (.inl a1)), none, some (.inl 0), some (.inl y2)]) d_J7_fill_d0a16_4 (Nat.le_of_ble_eq_true rfl) rfl ?_
  exact j_wk [true, true, false, true, true] rfl rfl (T_J7_fill_d0a16_6 G a0 a1 0 y2 M0 ht1)
set_option maxHeartbeats 4000000 in
set_option maxRecDepth 100000 in
theorem c_J7_fill_d0a16 (G : tp_G) (a0 : Int) (a1 : Int) (M0 : tp_M) (r : tp_M) (h : f_J7_fill_d0a16 a0 a1 M0 = some r) (l : Launch) : Met l y_J7_fill_d0a16 (tp_ws y_J7_fill_d0a16 i_J7_fill_d0a16) (tp_rm 0) (tp_Pc G [.inr (.inr a0), .inr (.inl a1)] tp_NC (tp_st M0)) (tp_Q G (o_J7_fill_d0a16 r)) 0 0 (tp_A G) :=
  tp_met (I := i_J7_fill_d0a16) (y := y_J7_fill_d0a16) (by decide +kernel) (Eq.refl "java/util/Arrays") (Eq.refl "fill") (lv := [some (.inr (.inr a0)), some (.inr (.inl a1)), none, none, none]) rfl (Nat.le_of_ble_eq_true rfl) (T_J7_fill_d0a16 G a0 a1 M0) h l
theorem wd_38 : (.fieldLink "TypesAtPrime$Numbers" 13 "TypesAtPrime$Numbers" "limit" "I" : Cond) ∈ lw_tbl := List.mem_append_right _ (List.mem_of_getElem? (i := 38) (by decide +kernel))
theorem fl_Numbers_13 : tp_F "TypesAtPrime$Numbers" 13 4 1 0 := ⟨_, _, _, rfl, by decide, rfl, wd_38, rfl, by decide⟩
theorem wd_35 : (.fieldLink "TypesAtPrime$Numbers" 7 "TypesAtPrime$Numbers" "prime" "I" : Cond) ∈ lw_tbl := List.mem_append_right _ (List.mem_of_getElem? (i := 35) (by decide +kernel))
theorem fl_Numbers_7 : tp_F "TypesAtPrime$Numbers" 7 4 0 0 := ⟨_, _, _, rfl, by decide, rfl, wd_35, rfl, by decide⟩
def y_X4_power : MethodName := ⟨"TypesAtPrime$Numbers", "power", "(I)J"⟩
abbrev i_X4_power : tp_I := (prog_6_method_4_code, "TypesAtPrime$Numbers", (some .long), 5, "power")
abbrev o_X4_power (M : tp_M) : Int → tp_O := fun r => (some (.inr (.inl r)), tp_NC, tp_st M)
theorem d_X4_power_0 : decode prog_6_method_4_code 0 = .ok (.iload_n 1, 1) := by decide +kernel
theorem d_X4_power_1 : decode prog_6_method_4_code 1 = .ok (.aload_n 0, 1) := by decide +kernel
theorem d_X4_power_2 : decode prog_6_method_4_code 2 = .ok (.getfield 13, 3) := by decide +kernel
theorem d_X4_power_5 : decode prog_6_method_4_code 5 = .ok (.if_icmp .lt 5, 3) := by decide +kernel
theorem d_X4_power_8 : decode prog_6_method_4_code 8 = .ok (.lconst 0, 1) := by decide +kernel
theorem d_X4_power_9 : decode prog_6_method_4_code 9 = .ok (.lreturn, 1) := by decide +kernel
theorem d_X4_power_10 : decode prog_6_method_4_code 10 = .ok (.lconst 1, 1) := by decide +kernel
theorem d_X4_power_11 : decode prog_6_method_4_code 11 = .ok (.lstore_n 2, 1) := by decide +kernel
theorem d_X4_power_12 : decode prog_6_method_4_code 12 = .ok (.iconst 0, 1) := by decide +kernel
theorem d_X4_power_13 : decode prog_6_method_4_code 13 = .ok (.istore 4, 2) := by decide +kernel
theorem d_X4_power_15 : decode prog_6_method_4_code 15 = .ok (.iload 4, 2) := by decide +kernel
theorem d_X4_power_17 : decode prog_6_method_4_code 17 = .ok (.iload_n 1, 1) := by decide +kernel
theorem d_X4_power_18 : decode prog_6_method_4_code 18 = .ok (.if_icmp .ge 17, 3) := by decide +kernel
theorem d_X4_power_21 : decode prog_6_method_4_code 21 = .ok (.lload_n 2, 1) := by decide +kernel
theorem d_X4_power_22 : decode prog_6_method_4_code 22 = .ok (.aload_n 0, 1) := by decide +kernel
theorem d_X4_power_23 : decode prog_6_method_4_code 23 = .ok (.getfield 7, 3) := by decide +kernel
theorem d_X4_power_26 : decode prog_6_method_4_code 26 = .ok (.i2l, 1) := by decide +kernel
theorem d_X4_power_27 : decode prog_6_method_4_code 27 = .ok (.lmul, 1) := by decide +kernel
theorem d_X4_power_28 : decode prog_6_method_4_code 28 = .ok (.lstore_n 2, 1) := by decide +kernel
theorem d_X4_power_29 : decode prog_6_method_4_code 29 = .ok (.iinc 4 1, 3) := by decide +kernel
theorem d_X4_power_32 : decode prog_6_method_4_code 32 = .ok (.goto (-17), 3) := by decide +kernel
theorem d_X4_power_35 : decode prog_6_method_4_code 35 = .ok (.lload_n 2, 1) := by decide +kernel
theorem d_X4_power_36 : decode prog_6_method_4_code 36 = .ok (.lreturn, 1) := by decide +kernel
def f_X4_power_15B (x1 : Int) (M0 : tp_M) (rec_15 : Int → Int → Option (Int)) (x2 : Int) (x4 : Int) : Option (Int) :=
  if x1 ≤ x4 then
    some x2
  else
    tp_lt ((tp_wl (x2 * (M0 1 0)))) fun y3 =>
    tp_lt (tp_w (x4 + 1)) fun y4 =>
    rec_15 y3 y4
set_option maxHeartbeats 4000000 in
set_option maxRecDepth 100000 in
theorem T_X4_power_15B (G : tp_G) (x1 : Int) (M0 : tp_M) (rec_15 : Int → Int → Option (Int)) (hrec_15 : ∀ (x2' x4' : Int), tp_J i_X4_power (tp_rm 0) G 0 0 (o_X4_power M0) tp_NC (tp_st M0) 0 0 [some (.inr (.inr 1)), some (.inl x1), some (.inr (.inl (x2'))), none, some (.inl (x4'))] 15 [] (rec_15 x2' x4')) (x2 : Int) (x4 : Int) : tp_J i_X4_power (tp_rm 0) G 0 0 (o_X4_power M0) tp_NC (tp_st M0) 0 0 [some (.inr (.inr 1)), some (.inl x1), some (.inr (.inl x2)), none, some (.inl x4)] 15 [] (f_X4_power_15B x1 M0 rec_15 x2 x4) := by
  unfold f_X4_power_15B
  refine j_iload d_X4_power_15 rfl ?_
  refine j_iload_n rfl d_X4_power_17 rfl ?_
  refine j_icmp_ge (tgt := 35) d_X4_power_18 (by decide) (fun h2 => ?_) (fun h2 => ?_)
  · refine j_lload_n rfl d_X4_power_35 rfl ?_
    exact j_lret d_X4_power_36 rfl rfl ⟨rfl, rfl⟩
  · refine j_lload_n rfl d_X4_power_21 rfl ?_
    refine j_aload_n rfl d_X4_power_22 rfl ?_
    refine j_geti fl_Numbers_7 tg_1 d_X4_power_23 ?_
    refine j_i2l d_X4_power_26 ?_
    refine j_lmul d_X4_power_27 ?_
    refine j_nmL (fun y3 hy3 => ?_)
    refine j_lstore_n (lv' := [some (.inr (.inr 1)), some (.inl x1), some (.inr (.inl y3)), none, some (.inl x4)]) rfl d_X4_power_28 (Nat.le_of_ble_eq_true rfl) rfl ?_
    refine j_iincN (lv' := fun y4 => [some (.inr (.inr 1)), some (.inl x1), some (.inr (.inl y3)), none, some (.inl y4)]) d_X4_power_29 rfl (Nat.le_of_ble_eq_true rfl) (fun _ => rfl) (fun y4 hy4 => ?_)
    refine j_goto (tgt := 15) d_X4_power_32 (by decide) ?_
    exact j_wk [true, true, true, false, true] rfl rfl (hrec_15 y3 y4)
def f_X4_power_15 (x1 : Int) (x2 : Int) (x4 : Int) (M0 : tp_M) : Option (Int) := tp_lp (σ := Int × Int) (fun rec_ u => f_X4_power_15B x1 M0 (fun x2' x4' => rec_ (x2', x4')) u.1 u.2) tp_N (x2, x4)
set_option maxHeartbeats 4000000 in
set_option maxRecDepth 100000 in
theorem T_X4_power_15 (G : tp_G) (x1 : Int) (x2 : Int) (x4 : Int) (M0 : tp_M) : tp_J i_X4_power (tp_rm 0) G 0 0 (o_X4_power M0) tp_NC (tp_st M0) 0 0 [some (.inr (.inr 1)), some (.inl x1), some (.inr (.inl x2)), none, some (.inl x4)] 15 [] (f_X4_power_15 x1 x2 x4 M0) := by
  unfold f_X4_power_15
  exact j_lp (σ := Int × Int) (n' := fun _ => tp_NC) (g' := fun u => tp_st M0) (k' := fun _ => 0) (q' := fun _ => 0) (lv' := fun u => [some (.inr (.inr 1)), some (.inl x1), some (.inr (.inl u.1)), none, some (.inl u.2)]) (fun rec_ hrec u => T_X4_power_15B G x1 M0 (fun x2' x4' => rec_ (x2', x4')) (fun x2' x4' => hrec (x2', x4')) u.1 u.2) tp_N (x2, x4)
def f_X4_power (a0 : Int) (M0 : tp_M) : Option (Int) :=
  if a0 < (M0 1 1) then
    f_X4_power_15 a0 1 0 M0
  else
    some 0
set_option maxHeartbeats 4000000 in
set_option maxRecDepth 100000 in
theorem T_X4_power (G : tp_G) (a0 : Int) (M0 : tp_M) : tp_J i_X4_power (tp_rm 0) G 0 0 (o_X4_power M0) tp_NC (tp_st M0) 0 0 [some (.inr (.inr 1)), some (.inl a0), none, none, none] 0 [] (f_X4_power a0 M0) := by
  unfold f_X4_power
  refine j_iload_n rfl d_X4_power_0 rfl ?_
  refine j_aload_n rfl d_X4_power_1 rfl ?_
  refine j_geti fl_Numbers_13 tg_1 d_X4_power_2 ?_
  refine j_icmp_lt (tgt := 10) d_X4_power_5 (by decide) (fun h1 => ?_) (fun h1 => ?_)
  · refine j_lconst (x := 1) ⟨by decide, by decide⟩ (by decide +kernel) d_X4_power_10 ?_
    refine j_lstore_n (lv' := [some (.inr (.inr 1)), some (.inl a0), some (.inr (.inl 1)), none, none]) rfl d_X4_power_11 (Nat.le_of_ble_eq_true rfl) rfl ?_
    refine j_iconst ⟨by decide, by decide⟩ d_X4_power_12 ?_
    refine j_istore (lv' := [some (.inr (.inr 1)), some (.inl a0), some (.inr (.inl 1)), none, some (.inl 0)]) d_X4_power_13 (Nat.le_of_ble_eq_true rfl) rfl ?_
    exact j_wk [true, true, true, false, true] rfl rfl (T_X4_power_15 G a0 1 0 M0)
  · refine j_lconst (x := 0) ⟨by decide, by decide⟩ (by decide +kernel) d_X4_power_8 ?_
    exact j_lret d_X4_power_9 rfl rfl ⟨rfl, rfl⟩
set_option maxHeartbeats 4000000 in
set_option maxRecDepth 100000 in
theorem c_X4_power (G : tp_G) (a0 : Int) (M0 : tp_M) (r : Int) (h : f_X4_power a0 M0 = some r) (l : Launch) : Met l y_X4_power (tp_ws y_X4_power i_X4_power) (tp_rm 0) (tp_Pc G [.inr (.inr 1), .inl a0] tp_NC (tp_st M0)) (tp_Q G ((o_X4_power M0) r)) 0 0 (tp_A G) :=
  tp_met (I := i_X4_power) (y := y_X4_power) (by decide +kernel) (Eq.refl "TypesAtPrime$Numbers") (Eq.refl "power") (lv := [some (.inr (.inr 1)), some (.inl a0), none, none, none]) rfl (Nat.le_of_ble_eq_true rfl) (T_X4_power G a0 M0) h l
theorem wd_691 : (.methodLink "TypesAtPrime$Numbers" 39 ⟨"java/lang/Math", "min", "(II)I"⟩ : Cond) ∈ lw_tbl := List.mem_append_right _ (List.mem_of_getElem? (i := 691) (by decide +kernel))
theorem wd_482 : (.static ⟨"java/lang/Math", "min", "(II)I"⟩ : Cond) ∈ lw_tbl := List.mem_append_right _ (List.mem_of_getElem? (i := 482) (by decide +kernel))
theorem wd_483 : (.code ⟨"java/lang/Math", "min", "(II)I"⟩ prog_14_method_69_code 2 (some .int) : Cond) ∈ lw_tbl := List.mem_append_right _ (List.mem_of_getElem? (i := 483) (by decide +kernel))
theorem wd_549 : (.code ⟨"java/util/Arrays", "fill", "([JJ)V"⟩ prog_19_method_101_code 5 (none : Option Jvm.ClassFile.FieldType) : Cond) ∈ lw_tbl := List.mem_append_right _ (List.mem_of_getElem? (i := 549) (by decide +kernel))
theorem cs_Numbers_45 : tp_CS "TypesAtPrime$Numbers" 45 y_J7_fill_d0a16 i_J7_fill_d0a16 2 := ⟨wd_549, wd_14, by decide, by decide, by decide +kernel⟩
theorem wd_692 : (.methodLink "TypesAtPrime$Numbers" 45 ⟨"java/util/Arrays", "fill", "([JJ)V"⟩ : Cond) ∈ lw_tbl := List.mem_append_right _ (List.mem_of_getElem? (i := 692) (by decide +kernel))
theorem wd_548 : (.static ⟨"java/util/Arrays", "fill", "([JJ)V"⟩ : Cond) ∈ lw_tbl := List.mem_append_right _ (List.mem_of_getElem? (i := 548) (by decide +kernel))
theorem cs_Numbers_35 : tp_CS "TypesAtPrime$Numbers" 35 y_X4_rest i_X4_rest 1 := ⟨wd_564, wd_2, by decide, by decide, by decide +kernel⟩
theorem wd_569 : (.methodLink "TypesAtPrime$Numbers" 35 ⟨"TypesAtPrime$Numbers", "rest", "(J)J"⟩ : Cond) ∈ lw_tbl := List.mem_append_right _ (List.mem_of_getElem? (i := 569) (by decide +kernel))
def y_X4_multiply : MethodName := ⟨"TypesAtPrime$Numbers", "multiply", "([J[J[J)V"⟩
abbrev i_X4_multiply : tp_I := (prog_6_method_8_code, "TypesAtPrime$Numbers", none, 7, "multiply")
abbrev o_X4_multiply : tp_M → tp_O := fun r => (none, tp_NC, tp_st r)
theorem d_X4_multiply_0 : decode prog_6_method_8_code 0 = .ok (.aload_n 1, 1) := by decide +kernel
theorem d_X4_multiply_1 : decode prog_6_method_8_code 1 = .ok (.arraylength, 1) := by decide +kernel
theorem d_X4_multiply_2 : decode prog_6_method_8_code 2 = .ok (.aload_n 2, 1) := by decide +kernel
theorem d_X4_multiply_3 : decode prog_6_method_8_code 3 = .ok (.arraylength, 1) := by decide +kernel
theorem d_X4_multiply_4 : decode prog_6_method_8_code 4 = .ok (.aload_n 3, 1) := by decide +kernel
theorem d_X4_multiply_5 : decode prog_6_method_8_code 5 = .ok (.arraylength, 1) := by decide +kernel
theorem d_X4_multiply_6 : decode prog_6_method_8_code 6 = .ok (.invokestatic 39, 3) := by decide +kernel
theorem d_X4_multiply_9 : decode prog_6_method_8_code 9 = .ok (.invokestatic 39, 3) := by decide +kernel
theorem d_X4_multiply_12 : decode prog_6_method_8_code 12 = .ok (.istore 4, 2) := by decide +kernel
theorem d_X4_multiply_14 : decode prog_6_method_8_code 14 = .ok (.aload_n 3, 1) := by decide +kernel
theorem d_X4_multiply_15 : decode prog_6_method_8_code 15 = .ok (.lconst 0, 1) := by decide +kernel
theorem d_X4_multiply_16 : decode prog_6_method_8_code 16 = .ok (.invokestatic 45, 3) := by decide +kernel
theorem d_X4_multiply_19 : decode prog_6_method_8_code 19 = .ok (.iconst 0, 1) := by decide +kernel
theorem d_X4_multiply_20 : decode prog_6_method_8_code 20 = .ok (.istore 5, 2) := by decide +kernel
theorem d_X4_multiply_22 : decode prog_6_method_8_code 22 = .ok (.iload 5, 2) := by decide +kernel
theorem d_X4_multiply_24 : decode prog_6_method_8_code 24 = .ok (.iload 4, 2) := by decide +kernel
theorem d_X4_multiply_26 : decode prog_6_method_8_code 26 = .ok (.if_icmp .ge 56, 3) := by decide +kernel
theorem d_X4_multiply_29 : decode prog_6_method_8_code 29 = .ok (.iconst 0, 1) := by decide +kernel
theorem d_X4_multiply_30 : decode prog_6_method_8_code 30 = .ok (.istore 6, 2) := by decide +kernel
theorem d_X4_multiply_32 : decode prog_6_method_8_code 32 = .ok (.iload 6, 2) := by decide +kernel
theorem d_X4_multiply_34 : decode prog_6_method_8_code 34 = .ok (.iload 4, 2) := by decide +kernel
theorem d_X4_multiply_36 : decode prog_6_method_8_code 36 = .ok (.iload 5, 2) := by decide +kernel
theorem d_X4_multiply_38 : decode prog_6_method_8_code 38 = .ok (.isub, 1) := by decide +kernel
theorem d_X4_multiply_39 : decode prog_6_method_8_code 39 = .ok (.if_icmp .ge 37, 3) := by decide +kernel
theorem d_X4_multiply_42 : decode prog_6_method_8_code 42 = .ok (.aload_n 3, 1) := by decide +kernel
theorem d_X4_multiply_43 : decode prog_6_method_8_code 43 = .ok (.iload 5, 2) := by decide +kernel
theorem d_X4_multiply_45 : decode prog_6_method_8_code 45 = .ok (.iload 6, 2) := by decide +kernel
theorem d_X4_multiply_47 : decode prog_6_method_8_code 47 = .ok (.iadd, 1) := by decide +kernel
theorem d_X4_multiply_48 : decode prog_6_method_8_code 48 = .ok (.aload_n 0, 1) := by decide +kernel
theorem d_X4_multiply_49 : decode prog_6_method_8_code 49 = .ok (.aload_n 3, 1) := by decide +kernel
theorem d_X4_multiply_50 : decode prog_6_method_8_code 50 = .ok (.iload 5, 2) := by decide +kernel
theorem d_X4_multiply_52 : decode prog_6_method_8_code 52 = .ok (.iload 6, 2) := by decide +kernel
theorem d_X4_multiply_54 : decode prog_6_method_8_code 54 = .ok (.iadd, 1) := by decide +kernel
theorem d_X4_multiply_55 : decode prog_6_method_8_code 55 = .ok (.laload, 1) := by decide +kernel
theorem d_X4_multiply_56 : decode prog_6_method_8_code 56 = .ok (.aload_n 1, 1) := by decide +kernel
theorem d_X4_multiply_57 : decode prog_6_method_8_code 57 = .ok (.iload 5, 2) := by decide +kernel
theorem d_X4_multiply_59 : decode prog_6_method_8_code 59 = .ok (.laload, 1) := by decide +kernel
theorem d_X4_multiply_60 : decode prog_6_method_8_code 60 = .ok (.aload_n 2, 1) := by decide +kernel
theorem d_X4_multiply_61 : decode prog_6_method_8_code 61 = .ok (.iload 6, 2) := by decide +kernel
theorem d_X4_multiply_63 : decode prog_6_method_8_code 63 = .ok (.laload, 1) := by decide +kernel
theorem d_X4_multiply_64 : decode prog_6_method_8_code 64 = .ok (.lmul, 1) := by decide +kernel
theorem d_X4_multiply_65 : decode prog_6_method_8_code 65 = .ok (.ladd, 1) := by decide +kernel
theorem d_X4_multiply_66 : decode prog_6_method_8_code 66 = .ok (.invokevirtual 35, 3) := by decide +kernel
theorem d_X4_multiply_69 : decode prog_6_method_8_code 69 = .ok (.lastore, 1) := by decide +kernel
theorem d_X4_multiply_70 : decode prog_6_method_8_code 70 = .ok (.iinc 6 1, 3) := by decide +kernel
theorem d_X4_multiply_73 : decode prog_6_method_8_code 73 = .ok (.goto (-41), 3) := by decide +kernel
theorem d_X4_multiply_76 : decode prog_6_method_8_code 76 = .ok (.iinc 5 1, 3) := by decide +kernel
theorem d_X4_multiply_79 : decode prog_6_method_8_code 79 = .ok (.goto (-57), 3) := by decide +kernel
theorem d_X4_multiply_82 : decode prog_6_method_8_code 82 = .ok (.iconst 0, 1) := by decide +kernel
theorem d_X4_multiply_83 : decode prog_6_method_8_code 83 = .ok (.istore 5, 2) := by decide +kernel
theorem d_X4_multiply_85 : decode prog_6_method_8_code 85 = .ok (.iload 5, 2) := by decide +kernel
theorem d_X4_multiply_87 : decode prog_6_method_8_code 87 = .ok (.iload 4, 2) := by decide +kernel
theorem d_X4_multiply_89 : decode prog_6_method_8_code 89 = .ok (.if_icmp .ge 17, 3) := by decide +kernel
theorem d_X4_multiply_92 : decode prog_6_method_8_code 92 = .ok (.aload_n 1, 1) := by decide +kernel
theorem d_X4_multiply_93 : decode prog_6_method_8_code 93 = .ok (.iload 5, 2) := by decide +kernel
theorem d_X4_multiply_95 : decode prog_6_method_8_code 95 = .ok (.aload_n 3, 1) := by decide +kernel
theorem d_X4_multiply_96 : decode prog_6_method_8_code 96 = .ok (.iload 5, 2) := by decide +kernel
theorem d_X4_multiply_98 : decode prog_6_method_8_code 98 = .ok (.laload, 1) := by decide +kernel
theorem d_X4_multiply_99 : decode prog_6_method_8_code 99 = .ok (.lastore, 1) := by decide +kernel
theorem d_X4_multiply_100 : decode prog_6_method_8_code 100 = .ok (.iinc 5 1, 3) := by decide +kernel
theorem d_X4_multiply_103 : decode prog_6_method_8_code 103 = .ok (.goto (-18), 3) := by decide +kernel
theorem d_X4_multiply_106 : decode prog_6_method_8_code 106 = .ok (.return_, 1) := by decide +kernel
def f_X4_multiply_85B (x1 : Int) (x3 : Int) (x4 : Int) (rec_85 : Int → tp_M → Option (tp_M)) (x5 : Int) (M0 : tp_M) : Option (tp_M) :=
  if x4 ≤ x5 then
    some M0
  else
    if 0 ≤ x5 ∧ x5 < tp_al x3 then
      if 0 ≤ x5 ∧ x5 < tp_al x1 then
        tp_mp (tp_up M0 x1 x5 (M0 x3 x5)) fun M9 =>
        tp_lt (tp_w (x5 + 1)) fun y10 =>
        rec_85 y10 M9 else none else none
set_option maxHeartbeats 4000000 in
set_option maxRecDepth 100000 in
theorem T_X4_multiply_85B (G : tp_G) (x1 : Int) (x3 : Int) (x4 : Int) (hg_x1 : tp_tg x1 = 22) (hg_x3 : tp_tg x3 = 22) (rec_85 : Int → tp_M → Option (tp_M)) (hrec_85 : ∀ (x5' : Int) (M' : tp_M), tp_J i_X4_multiply (tp_rm 1) G 0 0 o_X4_multiply tp_NC (tp_st M') 0 0 [none, some (.inr (.inr x1)), none, some (.inr (.inr x3)), some (.inl x4), some (.inl (x5')), none] 85 [] (rec_85 x5' M')) (x5 : Int) (M0 : tp_M) : tp_J i_X4_multiply (tp_rm 1) G 0 0 o_X4_multiply tp_NC (tp_st M0) 0 0 [none, some (.inr (.inr x1)), none, some (.inr (.inr x3)), some (.inl x4), some (.inl x5), none] 85 [] (f_X4_multiply_85B x1 x3 x4 rec_85 x5 M0) := by
  unfold f_X4_multiply_85B
  refine j_iload d_X4_multiply_85 rfl ?_
  refine j_iload d_X4_multiply_87 rfl ?_
  refine j_icmp_ge (tgt := 106) d_X4_multiply_89 (by decide) (fun h8 => ?_) (fun h8 => ?_)
  · exact j_vret d_X4_multiply_106 rfl rfl ⟨rfl, rfl⟩
  · refine j_aload_n rfl d_X4_multiply_92 rfl ?_
    refine j_iload d_X4_multiply_93 rfl ?_
    refine j_aload_n rfl d_X4_multiply_95 rfl ?_
    refine j_iload d_X4_multiply_96 rfl ?_
    refine j_lald hg_x3 rfl d_X4_multiply_98 ?_
    refine j_last hg_x1 rfl d_X4_multiply_99 (fun M9 hM9 => ?_)
    refine j_iincN (lv' := fun y10 => [none, some (.inr (.inr x1)), none, some (.inr (.inr x3)), some (.inl x4), some (.inl y10), none]) d_X4_multiply_100 rfl (Nat.le_of_ble_eq_true rfl) (fun _ => rfl) (fun y10 hy10 => ?_)
    refine j_goto (tgt := 85) d_X4_multiply_103 (by decide) ?_
    exact j_wk [false, true, false, true, true, true, false] rfl rfl (hrec_85 y10 M9)
def f_X4_multiply_85 (x1 : Int) (x3 : Int) (x4 : Int) (x5 : Int) (M0 : tp_M) : Option (tp_M) := tp_lp (σ := Int × tp_M) (fun rec_ u => f_X4_multiply_85B x1 x3 x4 (fun x5' M0' => rec_ (x5', M0')) u.1 u.2) tp_N (x5, M0)
set_option maxHeartbeats 4000000 in
set_option maxRecDepth 100000 in
theorem T_X4_multiply_85 (G : tp_G) (x1 : Int) (x3 : Int) (x4 : Int) (x5 : Int) (M0 : tp_M) (hg_x1 : tp_tg x1 = 22) (hg_x3 : tp_tg x3 = 22) : tp_J i_X4_multiply (tp_rm 1) G 0 0 o_X4_multiply tp_NC (tp_st M0) 0 0 [none, some (.inr (.inr x1)), none, some (.inr (.inr x3)), some (.inl x4), some (.inl x5), none] 85 [] (f_X4_multiply_85 x1 x3 x4 x5 M0) := by
  unfold f_X4_multiply_85
  exact j_lp (σ := Int × tp_M) (n' := fun _ => tp_NC) (g' := fun u => tp_st u.2) (k' := fun _ => 0) (q' := fun _ => 0) (lv' := fun u => [none, some (.inr (.inr x1)), none, some (.inr (.inr x3)), some (.inl x4), some (.inl u.1), none]) (fun rec_ hrec u => T_X4_multiply_85B G x1 x3 x4 hg_x1 hg_x3 (fun x5' M0' => rec_ (x5', M0')) (fun x5' M0' => hrec (x5', M0')) u.1 u.2) tp_N (x5, M0)
def f_X4_multiply_32B (rec_22 : Int → tp_M → Option (tp_M)) (x1 : Int) (x2 : Int) (x3 : Int) (x4 : Int) (x5 : Int) (rec_32 : Int → tp_M → Option (tp_M)) (x6 : Int) (M0 : tp_M) : Option (tp_M) :=
  if (tp_w (x4 - x5)) ≤ x6 then
    tp_lt (tp_w (x5 + 1)) fun y12 =>
    rec_22 y12 M0
  else
    if 0 ≤ (tp_w (x5 + x6)) ∧ (tp_w (x5 + x6)) < tp_al x3 then
      if 0 ≤ x5 ∧ x5 < tp_al x1 then
        if 0 ≤ x6 ∧ x6 < tp_al x2 then
          (f_X4_rest (tp_wl ((M0 x3 (tp_w (x5 + x6))) + (tp_wl ((M0 x1 x5) * (M0 x2 x6))))) M0).bind fun r13 =>
          if 0 ≤ (tp_w (x5 + x6)) ∧ (tp_w (x5 + x6)) < tp_al x3 then
            tp_mp (tp_up M0 x3 (tp_w (x5 + x6)) r13) fun M15 =>
            tp_lt (tp_w (x6 + 1)) fun y16 =>
            rec_32 y16 M15 else none else none else none else none
set_option maxHeartbeats 4000000 in
set_option maxRecDepth 100000 in
theorem T_X4_multiply_32B (G : tp_G) (rec_22 : Int → tp_M → Option (tp_M)) (x1 : Int) (x2 : Int) (x3 : Int) (x4 : Int) (x5 : Int) (hrec_22 : ∀ (x5' : Int) (M' : tp_M), tp_J i_X4_multiply (tp_rm 1) G 0 0 o_X4_multiply tp_NC (tp_st M') 0 0 [some (.inr (.inr 1)), some (.inr (.inr x1)), some (.inr (.inr x2)), some (.inr (.inr x3)), some (.inl x4), some (.inl (x5')), none] 22 [] (rec_22 x5' M')) (hg_x1 : tp_tg x1 = 22) (hg_x2 : tp_tg x2 = 22) (hg_x3 : tp_tg x3 = 22) (rec_32 : Int → tp_M → Option (tp_M)) (hrec_32 : ∀ (x6' : Int) (M' : tp_M), tp_J i_X4_multiply (tp_rm 1) G 0 0 o_X4_multiply tp_NC (tp_st M') 0 0 [some (.inr (.inr 1)), some (.inr (.inr x1)), some (.inr (.inr x2)), some (.inr (.inr x3)), some (.inl x4), some (.inl x5), some (.inl (x6'))] 32 [] (rec_32 x6' M')) (x6 : Int) (M0 : tp_M) : tp_J i_X4_multiply (tp_rm 1) G 0 0 o_X4_multiply tp_NC (tp_st M0) 0 0 [some (.inr (.inr 1)), some (.inr (.inr x1)), some (.inr (.inr x2)), some (.inr (.inr x3)), some (.inl x4), some (.inl x5), some (.inl x6)] 32 [] (f_X4_multiply_32B rec_22 x1 x2 x3 x4 x5 rec_32 x6 M0) := by
  unfold f_X4_multiply_32B
  refine j_iload d_X4_multiply_32 rfl ?_
  refine j_iload d_X4_multiply_34 rfl ?_
  refine j_iload d_X4_multiply_36 rfl ?_
  refine j_isub d_X4_multiply_38 ?_
  refine j_icmp_ge (tgt := 76) d_X4_multiply_39 (by decide) (fun h11 => ?_) (fun h11 => ?_)
  · refine j_iincN (lv' := fun y12 => [some (.inr (.inr 1)), some (.inr (.inr x1)), some (.inr (.inr x2)), some (.inr (.inr x3)), some (.inl x4), some (.inl y12), some (.inl x6)]) d_X4_multiply_76 rfl (Nat.le_of_ble_eq_true rfl) (fun _ => rfl) (fun y12 hy12 => ?_)
    refine j_goto (tgt := 22) d_X4_multiply_79 (by decide) ?_
    exact j_wk [true, true, true, true, true, true, false] rfl rfl (hrec_22 y12 M0)
  · refine j_aload_n rfl d_X4_multiply_42 rfl ?_
    refine j_iload d_X4_multiply_43 rfl ?_
    refine j_iload d_X4_multiply_45 rfl ?_
    refine j_iadd d_X4_multiply_47 ?_
    refine j_aload_n rfl d_X4_multiply_48 rfl ?_
    refine j_aload_n rfl d_X4_multiply_49 rfl ?_
    refine j_iload d_X4_multiply_50 rfl ?_
    refine j_iload d_X4_multiply_52 rfl ?_
    refine j_iadd d_X4_multiply_54 ?_
    refine j_lald hg_x3 rfl d_X4_multiply_55 ?_
    refine j_aload_n rfl d_X4_multiply_56 rfl ?_
    refine j_iload d_X4_multiply_57 rfl ?_
    refine j_lald hg_x1 rfl d_X4_multiply_59 ?_
    refine j_aload_n rfl d_X4_multiply_60 rfl ?_
    refine j_iload d_X4_multiply_61 rfl ?_
    refine j_lald hg_x2 rfl d_X4_multiply_63 ?_
    refine j_lmul d_X4_multiply_64 ?_
    refine j_ladd d_X4_multiply_65 ?_
    refine j_bind (fun r13 h14 => ?_)
    refine j_callV (y := y_X4_rest) (I' := i_X4_rest) (avs := [.inr (.inl (tp_wl ((M0 x3 (tp_w (x5 + x6))) + (tp_wl ((M0 x1 x5) * (M0 x2 x6))))))]) (c := 1) (st := [.inl (tp_w (x5 + x6)), .inr (.inr x3)]) (c_X4_rest G (tp_wl ((M0 x3 (tp_w (x5 + x6))) + (tp_wl ((M0 x1 x5) * (M0 x2 x6))))) M0 r13 h14) cs_Numbers_35 wd_569 wd_562 wd_563 tg_1 rfl rfl rfl (Nat.le_of_ble_eq_true rfl) ⟨rfl, rfl⟩ ⟨by decide, by decide⟩ ⟨by decide, by decide⟩ d_X4_multiply_66 ?_
    refine j_last hg_x3 rfl d_X4_multiply_69 (fun M15 hM15 => ?_)
    refine j_iincN (lv' := fun y16 => [some (.inr (.inr 1)), some (.inr (.inr x1)), some (.inr (.inr x2)), some (.inr (.inr x3)), some (.inl x4), some (.inl x5), some (.inl y16)]) d_X4_multiply_70 rfl (Nat.le_of_ble_eq_true rfl) (fun _ => rfl) (fun y16 hy16 => ?_)
    refine j_goto (tgt := 32) d_X4_multiply_73 (by decide) ?_
    exact j_wk [true, true, true, true, true, true, true] rfl rfl (hrec_32 y16 M15)
def f_X4_multiply_32 (rec_22 : Int → tp_M → Option (tp_M)) (x1 : Int) (x2 : Int) (x3 : Int) (x4 : Int) (x5 : Int) (x6 : Int) (M0 : tp_M) : Option (tp_M) := tp_lp (σ := Int × tp_M) (fun rec_ u => f_X4_multiply_32B rec_22 x1 x2 x3 x4 x5 (fun x6' M0' => rec_ (x6', M0')) u.1 u.2) tp_N (x6, M0)
set_option maxHeartbeats 4000000 in
set_option maxRecDepth 100000 in
theorem T_X4_multiply_32 (G : tp_G) (rec_22 : Int → tp_M → Option (tp_M)) (x1 : Int) (x2 : Int) (x3 : Int) (x4 : Int) (x5 : Int) (x6 : Int) (M0 : tp_M) (hrec_22 : ∀ (x5' : Int) (M' : tp_M), tp_J i_X4_multiply (tp_rm 1) G 0 0 o_X4_multiply tp_NC (tp_st M') 0 0 [some (.inr (.inr 1)), some (.inr (.inr x1)), some (.inr (.inr x2)), some (.inr (.inr x3)), some (.inl x4), some (.inl (x5')), none] 22 [] (rec_22 x5' M')) (hg_x1 : tp_tg x1 = 22) (hg_x2 : tp_tg x2 = 22) (hg_x3 : tp_tg x3 = 22) : tp_J i_X4_multiply (tp_rm 1) G 0 0 o_X4_multiply tp_NC (tp_st M0) 0 0 [some (.inr (.inr 1)), some (.inr (.inr x1)), some (.inr (.inr x2)), some (.inr (.inr x3)), some (.inl x4), some (.inl x5), some (.inl x6)] 32 [] (f_X4_multiply_32 rec_22 x1 x2 x3 x4 x5 x6 M0) := by
  unfold f_X4_multiply_32
  exact j_lp (σ := Int × tp_M) (n' := fun _ => tp_NC) (g' := fun u => tp_st u.2) (k' := fun _ => 0) (q' := fun _ => 0) (lv' := fun u => [some (.inr (.inr 1)), some (.inr (.inr x1)), some (.inr (.inr x2)), some (.inr (.inr x3)), some (.inl x4), some (.inl x5), some (.inl u.1)]) (fun rec_ hrec u => T_X4_multiply_32B G rec_22 x1 x2 x3 x4 x5 hrec_22 hg_x1 hg_x2 hg_x3 (fun x6' M0' => rec_ (x6', M0')) (fun x6' M0' => hrec (x6', M0')) u.1 u.2) tp_N (x6, M0)
def f_X4_multiply_22B (x1 : Int) (x2 : Int) (x3 : Int) (x4 : Int) (rec_22 : Int → tp_M → Option (tp_M)) (x5 : Int) (M0 : tp_M) : Option (tp_M) :=
  if x4 ≤ x5 then
    f_X4_multiply_85 x1 x3 x4 0 M0
  else
    f_X4_multiply_32 rec_22 x1 x2 x3 x4 x5 0 M0
set_option maxHeartbeats 4000000 in
set_option maxRecDepth 100000 in
theorem T_X4_multiply_22B (G : tp_G) (x1 : Int) (x2 : Int) (x3 : Int) (x4 : Int) (hg_x1 : tp_tg x1 = 22) (hg_x2 : tp_tg x2 = 22) (hg_x3 : tp_tg x3 = 22) (rec_22 : Int → tp_M → Option (tp_M)) (hrec_22 : ∀ (x5' : Int) (M' : tp_M), tp_J i_X4_multiply (tp_rm 1) G 0 0 o_X4_multiply tp_NC (tp_st M') 0 0 [some (.inr (.inr 1)), some (.inr (.inr x1)), some (.inr (.inr x2)), some (.inr (.inr x3)), some (.inl x4), some (.inl (x5')), none] 22 [] (rec_22 x5' M')) (x5 : Int) (M0 : tp_M) : tp_J i_X4_multiply (tp_rm 1) G 0 0 o_X4_multiply tp_NC (tp_st M0) 0 0 [some (.inr (.inr 1)), some (.inr (.inr x1)), some (.inr (.inr x2)), some (.inr (.inr x3)), some (.inl x4), some (.inl x5), none] 22 [] (f_X4_multiply_22B x1 x2 x3 x4 rec_22 x5 M0) := by
  unfold f_X4_multiply_22B
  refine j_iload d_X4_multiply_22 rfl ?_
  refine j_iload d_X4_multiply_24 rfl ?_
  refine j_icmp_ge (tgt := 82) d_X4_multiply_26 (by decide) (fun h7 => ?_) (fun h7 => ?_)
  · refine j_iconst ⟨by decide, by decide⟩ d_X4_multiply_82 ?_
    refine j_istore (lv' := [some (.inr (.inr 1)), some (.inr (.inr x1)), some (.inr (.inr x2)), some (.inr (.inr x3)), some (.inl x4), some (.inl 0), none]) d_X4_multiply_83 (Nat.le_of_ble_eq_true rfl) rfl ?_
    exact j_wk [false, true, false, true, true, true, false] rfl rfl (T_X4_multiply_85 G x1 x3 x4 0 M0 hg_x1 hg_x3)
  · refine j_iconst ⟨by decide, by decide⟩ d_X4_multiply_29 ?_
    refine j_istore (lv' := [some (.inr (.inr 1)), some (.inr (.inr x1)), some (.inr (.inr x2)), some (.inr (.inr x3)), some (.inl x4), some (.inl x5), some (.inl 0)]) d_X4_multiply_30 (Nat.le_of_ble_eq_true rfl) rfl ?_
    exact j_wk [true, true, true, true, true, true, true] rfl rfl (T_X4_multiply_32 G rec_22 x1 x2 x3 x4 x5 0 M0 hrec_22 hg_x1 hg_x2 hg_x3)
def f_X4_multiply_22 (x1 : Int) (x2 : Int) (x3 : Int) (x4 : Int) (x5 : Int) (M0 : tp_M) : Option (tp_M) := tp_lp (σ := Int × tp_M) (fun rec_ u => f_X4_multiply_22B x1 x2 x3 x4 (fun x5' M0' => rec_ (x5', M0')) u.1 u.2) tp_N (x5, M0)
set_option maxHeartbeats 4000000 in
set_option maxRecDepth 100000 in
theorem T_X4_multiply_22 (G : tp_G) (x1 : Int) (x2 : Int) (x3 : Int) (x4 : Int) (x5 : Int) (M0 : tp_M) (hg_x1 : tp_tg x1 = 22) (hg_x2 : tp_tg x2 = 22) (hg_x3 : tp_tg x3 = 22) : tp_J i_X4_multiply (tp_rm 1) G 0 0 o_X4_multiply tp_NC (tp_st M0) 0 0 [some (.inr (.inr 1)), some (.inr (.inr x1)), some (.inr (.inr x2)), some (.inr (.inr x3)), some (.inl x4), some (.inl x5), none] 22 [] (f_X4_multiply_22 x1 x2 x3 x4 x5 M0) := by
  unfold f_X4_multiply_22
  exact j_lp (σ := Int × tp_M) (n' := fun _ => tp_NC) (g' := fun u => tp_st u.2) (k' := fun _ => 0) (q' := fun _ => 0) (lv' := fun u => [some (.inr (.inr 1)), some (.inr (.inr x1)), some (.inr (.inr x2)), some (.inr (.inr x3)), some (.inl x4), some (.inl u.1), none]) (fun rec_ hrec u => T_X4_multiply_22B G x1 x2 x3 x4 hg_x1 hg_x2 hg_x3 (fun x5' M0' => rec_ (x5', M0')) (fun x5' M0' => hrec (x5', M0')) u.1 u.2) tp_N (x5, M0)
def f_X4_multiply (a0 : Int) (a1 : Int) (a2 : Int) (M0 : tp_M) : Option (tp_M) :=
  if tp_tg a0 = 22 then
    if tp_tg a1 = 22 then
      if tp_tg a2 = 22 then
        tp_lt ((min (tp_al a0) (min (tp_al a1) (tp_al a2)))) fun y4 =>
        (f_J7_fill_d0a16 a2 0 M0).bind fun r5 =>
        f_X4_multiply_22 a0 a1 a2 y4 0 r5 else none else none else none
set_option maxHeartbeats 4000000 in
set_option maxRecDepth 100000 in
theorem T_X4_multiply (G : tp_G) (a0 : Int) (a1 : Int) (a2 : Int) (M0 : tp_M) : tp_J i_X4_multiply (tp_rm 1) G 0 0 o_X4_multiply tp_NC (tp_st M0) 0 0 [some (.inr (.inr 1)), some (.inr (.inr a0)), some (.inr (.inr a1)), some (.inr (.inr a2)), none, none, none] 0 [] (f_X4_multiply a0 a1 a2 M0) := by
  unfold f_X4_multiply
  refine tp_chk (fun ht1 => ?_)
  refine tp_chk (fun ht2 => ?_)
  refine tp_chk (fun ht3 => ?_)
  refine j_aload_n rfl d_X4_multiply_0 rfl ?_
  refine j_alen ht1 (by decide) rfl (tp_al_r _) (ty := .long) (by decide) d_X4_multiply_1 ?_
  refine j_aload_n rfl d_X4_multiply_2 rfl ?_
  refine j_alen ht2 (by decide) rfl (tp_al_r _) (ty := .long) (by decide) d_X4_multiply_3 ?_
  refine j_aload_n rfl d_X4_multiply_4 rfl ?_
  refine j_alen ht3 (by decide) rfl (tp_al_r _) (ty := .long) (by decide) d_X4_multiply_5 ?_
  refine j_mmin wd_691 wd_482 wd_13 wd_483 ⟨(by decide : 1 ≤ ((tp_rm 1) : Room).frames), (by decide : 40 ≤ ((tp_rm 1) : Room).locals)⟩ ⟨by decide, by decide⟩ (Nat.le_of_ble_eq_true rfl) d_X4_multiply_6 ?_
  refine j_mmin wd_691 wd_482 wd_13 wd_483 ⟨(by decide : 1 ≤ ((tp_rm 1) : Room).frames), (by decide : 40 ≤ ((tp_rm 1) : Room).locals)⟩ ⟨by decide, by decide⟩ (Nat.le_of_ble_eq_true rfl) d_X4_multiply_9 ?_
  refine j_nmI (fun y4 hy4 => ?_)
  refine j_istore (lv' := [some (.inr (.inr 1)), some (.inr (.inr a0)), some (.inr (.inr a1)), some (.inr (.inr a2)), some (.inl y4), none, none]) d_X4_multiply_12 (Nat.le_of_ble_eq_true rfl) rfl ?_
  refine j_aload_n rfl d_X4_multiply_14 rfl ?_
  refine j_lconst (x := 0) ⟨by decide, by decide⟩ (by decide +kernel) d_X4_multiply_15 ?_
  refine j_bind (fun r5 h6 => ?_)
  refine j_callS (y := y_J7_fill_d0a16) (I' := i_J7_fill_d0a16) (avs := [.inr (.inr a2), .inr (.inl 0)]) (st := []) (c_J7_fill_d0a16 G a2 0 M0 r5 h6) cs_Numbers_45 wd_692 wd_548 rfl rfl (Nat.le_of_ble_eq_true rfl) ⟨rfl, rfl⟩ ⟨by decide, by decide⟩ ⟨by decide, by decide⟩ d_X4_multiply_16 ?_
  refine j_iconst ⟨by decide, by decide⟩ d_X4_multiply_19 ?_
  refine j_istore (lv' := [some (.inr (.inr 1)), some (.inr (.inr a0)), some (.inr (.inr a1)), some (.inr (.inr a2)), some (.inl y4), some (.inl 0), none]) d_X4_multiply_20 (Nat.le_of_ble_eq_true rfl) rfl ?_
  exact j_wk [true, true, true, true, true, true, false] rfl rfl (T_X4_multiply_22 G a0 a1 a2 y4 0 r5 ht1 ht2 ht3)
set_option maxHeartbeats 4000000 in
set_option maxRecDepth 100000 in
theorem c_X4_multiply (G : tp_G) (a0 : Int) (a1 : Int) (a2 : Int) (M0 : tp_M) (r : tp_M) (h : f_X4_multiply a0 a1 a2 M0 = some r) (l : Launch) : Met l y_X4_multiply (tp_ws y_X4_multiply i_X4_multiply) (tp_rm 1) (tp_Pc G [.inr (.inr 1), .inr (.inr a0), .inr (.inr a1), .inr (.inr a2)] tp_NC (tp_st M0)) (tp_Q G (o_X4_multiply r)) 0 0 (tp_A G) :=
  tp_met (I := i_X4_multiply) (y := y_X4_multiply) (by decide +kernel) (Eq.refl "TypesAtPrime$Numbers") (Eq.refl "multiply") (lv := [some (.inr (.inr 1)), some (.inr (.inr a0)), some (.inr (.inr a1)), some (.inr (.inr a2)), none, none, none]) rfl (Nat.le_of_ble_eq_true rfl) (T_X4_multiply G a0 a1 a2 M0) h l
theorem wd_352 : (.fieldLink "TypesAtPrime$Grower" 199 "TypesAtPrime$Path" "key" "[[J" : Cond) ∈ lw_tbl := List.mem_append_right _ (List.mem_of_getElem? (i := 352) (by decide +kernel))
theorem fl_Grower_199 : tp_F "TypesAtPrime$Grower" 199 5 5 2 := ⟨_, _, _, rfl, by decide, rfl, wd_352, rfl, by decide⟩
theorem tg_293 : tp_tg 293 = 24 := by decide +kernel
theorem al_293 : tp_al 293 = 8 := by decide +kernel
theorem rv_279_5 : tp_rv 279 5 = 293 := by decide +kernel
theorem aa_293 : ∀ i : Int, 0 ≤ i → i < 8 → tp_rv 293 i.toNat = (294 + i) ∧ tp_tg (294 + i) = 22 ∧ tp_al (294 + i) = 9 := by
  intro i h0 h1
  have h : (List.range 8).all (fun j => decide (tp_rv 293 j = (294 + (j : Int)) ∧ tp_tg (294 + (j : Int)) = 22 ∧ tp_al (294 + (j : Int)) = 9)) = true := by decide +kernel
  have h3 := of_decide_eq_true (List.all_eq_true.mp h i.toNat (List.mem_range.mpr (by omega)))
  have h4 : ((i.toNat : Nat) : Int) = i := by omega
  rw [h4] at h3
  exact h3
theorem wd_376 : (.fieldLink "TypesAtPrime$Grower" 34 "TypesAtPrime$Grower" "product" "[J" : Cond) ∈ lw_tbl := List.mem_append_right _ (List.mem_of_getElem? (i := 376) (by decide +kernel))
theorem fl_Grower_34 : tp_F "TypesAtPrime$Grower" 34 1 7 2 := ⟨_, _, _, rfl, by decide, rfl, wd_376, rfl, by decide⟩
theorem tg_306 : tp_tg 306 = 22 := by decide +kernel
theorem al_306 : tp_al 306 = 9 := by decide +kernel
theorem rv_278_7 : tp_rv 278 7 = 306 := by decide +kernel
theorem wd_690 : (.code ⟨"TypesAtPrime$Numbers", "multiply", "([J[J[J)V"⟩ prog_6_method_8_code 7 (none : Option Jvm.ClassFile.FieldType) : Cond) ∈ lw_tbl := List.mem_append_right _ (List.mem_of_getElem? (i := 690) (by decide +kernel))
theorem cs_Grower_202 : tp_CS "TypesAtPrime$Grower" 202 y_X4_multiply i_X4_multiply 3 := ⟨wd_690, wd_2, by decide, by decide, by decide +kernel⟩
theorem wd_687 : (.methodLink "TypesAtPrime$Grower" 202 ⟨"TypesAtPrime$Numbers", "multiply", "([J[J[J)V"⟩ : Cond) ∈ lw_tbl := List.mem_append_right _ (List.mem_of_getElem? (i := 687) (by decide +kernel))
theorem wd_688 : (.instanceMethod ⟨"TypesAtPrime$Numbers", "multiply", "([J[J[J)V"⟩ : Cond) ∈ lw_tbl := List.mem_append_right _ (List.mem_of_getElem? (i := 688) (by decide +kernel))
theorem wd_689 : (.selects "TypesAtPrime$Numbers" ⟨"TypesAtPrime$Numbers", "multiply", "([J[J[J)V"⟩ ⟨"TypesAtPrime$Numbers", "multiply", "([J[J[J)V"⟩ : Cond) ∈ lw_tbl := List.mem_append_right _ (List.mem_of_getElem? (i := 689) (by decide +kernel))
def y_X1_multiplyByKey : MethodName := ⟨"TypesAtPrime$Grower", "multiplyByKey", "([JII)V"⟩
abbrev i_X1_multiplyByKey : tp_I := (prog_3_method_7_code, "TypesAtPrime$Grower", none, 5, "multiplyByKey")
abbrev o_X1_multiplyByKey : tp_M → tp_O := fun r => (none, tp_NC, tp_st r)
theorem d_X1_multiplyByKey_0 : decode prog_3_method_7_code 0 = .ok (.iload_n 2, 1) := by decide +kernel
theorem d_X1_multiplyByKey_1 : decode prog_3_method_7_code 1 = .ok (.iconst 1, 1) := by decide +kernel
theorem d_X1_multiplyByKey_2 : decode prog_3_method_7_code 2 = .ok (.if_icmp .lt 9, 3) := by decide +kernel
theorem d_X1_multiplyByKey_5 : decode prog_3_method_7_code 5 = .ok (.iload_n 2, 1) := by decide +kernel
theorem d_X1_multiplyByKey_6 : decode prog_3_method_7_code 6 = .ok (.bipush 6, 2) := by decide +kernel
theorem d_X1_multiplyByKey_8 : decode prog_3_method_7_code 8 = .ok (.if_icmp .le 4, 3) := by decide +kernel
theorem d_X1_multiplyByKey_11 : decode prog_3_method_7_code 11 = .ok (.return_, 1) := by decide +kernel
theorem d_X1_multiplyByKey_12 : decode prog_3_method_7_code 12 = .ok (.iconst 0, 1) := by decide +kernel
theorem d_X1_multiplyByKey_13 : decode prog_3_method_7_code 13 = .ok (.istore 4, 2) := by decide +kernel
theorem d_X1_multiplyByKey_15 : decode prog_3_method_7_code 15 = .ok (.iload 4, 2) := by decide +kernel
theorem d_X1_multiplyByKey_17 : decode prog_3_method_7_code 17 = .ok (.iload_n 3, 1) := by decide +kernel
theorem d_X1_multiplyByKey_18 : decode prog_3_method_7_code 18 = .ok (.if_icmp .ge 30, 3) := by decide +kernel
theorem d_X1_multiplyByKey_21 : decode prog_3_method_7_code 21 = .ok (.aload_n 0, 1) := by decide +kernel
theorem d_X1_multiplyByKey_22 : decode prog_3_method_7_code 22 = .ok (.getfield 53, 3) := by decide +kernel
theorem d_X1_multiplyByKey_25 : decode prog_3_method_7_code 25 = .ok (.aload_n 1, 1) := by decide +kernel
theorem d_X1_multiplyByKey_26 : decode prog_3_method_7_code 26 = .ok (.aload_n 0, 1) := by decide +kernel
theorem d_X1_multiplyByKey_27 : decode prog_3_method_7_code 27 = .ok (.getfield 12, 3) := by decide +kernel
theorem d_X1_multiplyByKey_30 : decode prog_3_method_7_code 30 = .ok (.getfield 199, 3) := by decide +kernel
theorem d_X1_multiplyByKey_33 : decode prog_3_method_7_code 33 = .ok (.iload_n 2, 1) := by decide +kernel
theorem d_X1_multiplyByKey_34 : decode prog_3_method_7_code 34 = .ok (.aaload, 1) := by decide +kernel
theorem d_X1_multiplyByKey_35 : decode prog_3_method_7_code 35 = .ok (.aload_n 0, 1) := by decide +kernel
theorem d_X1_multiplyByKey_36 : decode prog_3_method_7_code 36 = .ok (.getfield 34, 3) := by decide +kernel
theorem d_X1_multiplyByKey_39 : decode prog_3_method_7_code 39 = .ok (.invokevirtual 202, 3) := by decide +kernel
theorem d_X1_multiplyByKey_42 : decode prog_3_method_7_code 42 = .ok (.iinc 4 1, 3) := by decide +kernel
theorem d_X1_multiplyByKey_45 : decode prog_3_method_7_code 45 = .ok (.goto (-30), 3) := by decide +kernel
theorem d_X1_multiplyByKey_48 : decode prog_3_method_7_code 48 = .ok (.return_, 1) := by decide +kernel
def f_X1_multiplyByKey_15B (x1 : Int) (x2 : Int) (x3 : Int) (rec_15 : Int → tp_M → Option (tp_M)) (x4 : Int) (M0 : tp_M) : Option (tp_M) :=
  if x3 ≤ x4 then
    some M0
  else
    if 0 ≤ x2 ∧ x2 < 8 then
      (f_X4_multiply x1 (294 + x2) 306 M0).bind fun r6 =>
      tp_lt (tp_w (x4 + 1)) fun y8 =>
      rec_15 y8 r6 else none
set_option maxHeartbeats 4000000 in
set_option maxRecDepth 100000 in
theorem T_X1_multiplyByKey_15B (G : tp_G) (x1 : Int) (x2 : Int) (x3 : Int) (hg_x1 : tp_tg x1 = 22) (rec_15 : Int → tp_M → Option (tp_M)) (hrec_15 : ∀ (x4' : Int) (M' : tp_M), tp_J i_X1_multiplyByKey (tp_rm 2) G 0 0 o_X1_multiplyByKey tp_NC (tp_st M') 0 0 [some (.inr (.inr 278)), some (.inr (.inr x1)), some (.inl x2), some (.inl x3), some (.inl (x4'))] 15 [] (rec_15 x4' M')) (x4 : Int) (M0 : tp_M) : tp_J i_X1_multiplyByKey (tp_rm 2) G 0 0 o_X1_multiplyByKey tp_NC (tp_st M0) 0 0 [some (.inr (.inr 278)), some (.inr (.inr x1)), some (.inl x2), some (.inl x3), some (.inl x4)] 15 [] (f_X1_multiplyByKey_15B x1 x2 x3 rec_15 x4 M0) := by
  unfold f_X1_multiplyByKey_15B
  refine j_iload d_X1_multiplyByKey_15 rfl ?_
  refine j_iload_n rfl d_X1_multiplyByKey_17 rfl ?_
  refine j_icmp_ge (tgt := 48) d_X1_multiplyByKey_18 (by decide) (fun h4 => ?_) (fun h4 => ?_)
  · exact j_vret d_X1_multiplyByKey_48 rfl rfl ⟨rfl, rfl⟩
  · refine j_aload_n rfl d_X1_multiplyByKey_21 rfl ?_
    refine j_getr fl_Grower_53 tg_278 rv_278_0 d_X1_multiplyByKey_22 ?_
    refine j_aload_n rfl d_X1_multiplyByKey_25 rfl ?_
    refine j_aload_n rfl d_X1_multiplyByKey_26 rfl ?_
    refine j_getr fl_Grower_12 tg_278 rv_278_2 d_X1_multiplyByKey_27 ?_
    refine j_getr fl_Grower_199 tg_279 rv_279_5 d_X1_multiplyByKey_30 ?_
    refine j_iload_n rfl d_X1_multiplyByKey_33 rfl ?_
    refine j_aald (v := (294 + x2)) (ty := (.array .long)) tg_293 (by decide) al_293 (by decide) rfl d_X1_multiplyByKey_34 (fun h1 h2 => (aa_293 _ h1 h2).1) (fun hi5 => ?_)
    refine j_aload_n rfl d_X1_multiplyByKey_35 rfl ?_
    refine j_getr fl_Grower_34 tg_278 rv_278_7 d_X1_multiplyByKey_36 ?_
    refine j_bind (fun r6 h7 => ?_)
    refine j_callV (y := y_X4_multiply) (I' := i_X4_multiply) (avs := [.inr (.inr x1), .inr (.inr (294 + x2)), .inr (.inr 306)]) (c := 1) (st := []) (c_X4_multiply G x1 (294 + x2) 306 M0 r6 h7) cs_Grower_202 wd_687 wd_688 wd_689 tg_1 rfl rfl rfl (Nat.le_of_ble_eq_true rfl) ⟨rfl, rfl⟩ ⟨by decide, by decide⟩ ⟨by decide, by decide⟩ d_X1_multiplyByKey_39 ?_
    refine j_iincN (lv' := fun y8 => [some (.inr (.inr 278)), some (.inr (.inr x1)), some (.inl x2), some (.inl x3), some (.inl y8)]) d_X1_multiplyByKey_42 rfl (Nat.le_of_ble_eq_true rfl) (fun _ => rfl) (fun y8 hy8 => ?_)
    refine j_goto (tgt := 15) d_X1_multiplyByKey_45 (by decide) ?_
    exact j_wk [true, true, true, true, true] rfl rfl (hrec_15 y8 r6)
def f_X1_multiplyByKey_15 (x1 : Int) (x2 : Int) (x3 : Int) (x4 : Int) (M0 : tp_M) : Option (tp_M) := tp_lp (σ := Int × tp_M) (fun rec_ u => f_X1_multiplyByKey_15B x1 x2 x3 (fun x4' M0' => rec_ (x4', M0')) u.1 u.2) tp_N (x4, M0)
set_option maxHeartbeats 4000000 in
set_option maxRecDepth 100000 in
theorem T_X1_multiplyByKey_15 (G : tp_G) (x1 : Int) (x2 : Int) (x3 : Int) (x4 : Int) (M0 : tp_M) (hg_x1 : tp_tg x1 = 22) : tp_J i_X1_multiplyByKey (tp_rm 2) G 0 0 o_X1_multiplyByKey tp_NC (tp_st M0) 0 0 [some (.inr (.inr 278)), some (.inr (.inr x1)), some (.inl x2), some (.inl x3), some (.inl x4)] 15 [] (f_X1_multiplyByKey_15 x1 x2 x3 x4 M0) := by
  unfold f_X1_multiplyByKey_15
  exact j_lp (σ := Int × tp_M) (n' := fun _ => tp_NC) (g' := fun u => tp_st u.2) (k' := fun _ => 0) (q' := fun _ => 0) (lv' := fun u => [some (.inr (.inr 278)), some (.inr (.inr x1)), some (.inl x2), some (.inl x3), some (.inl u.1)]) (fun rec_ hrec u => T_X1_multiplyByKey_15B G x1 x2 x3 hg_x1 (fun x4' M0' => rec_ (x4', M0')) (fun x4' M0' => hrec (x4', M0')) u.1 u.2) tp_N (x4, M0)
def f_X1_multiplyByKey (a0 : Int) (a1 : Int) (a2 : Int) (M0 : tp_M) : Option (tp_M) :=
  if tp_tg a0 = 22 then
    if a1 < 1 then
      some M0
    else
      if a1 ≤ 6 then
        f_X1_multiplyByKey_15 a0 a1 a2 0 M0
      else
        some M0 else none
set_option maxHeartbeats 4000000 in
set_option maxRecDepth 100000 in
theorem T_X1_multiplyByKey (G : tp_G) (a0 : Int) (a1 : Int) (a2 : Int) (M0 : tp_M) : tp_J i_X1_multiplyByKey (tp_rm 2) G 0 0 o_X1_multiplyByKey tp_NC (tp_st M0) 0 0 [some (.inr (.inr 278)), some (.inr (.inr a0)), some (.inl a1), some (.inl a2), none] 0 [] (f_X1_multiplyByKey a0 a1 a2 M0) := by
  unfold f_X1_multiplyByKey
  refine tp_chk (fun ht1 => ?_)
  refine j_iload_n rfl d_X1_multiplyByKey_0 rfl ?_
  refine j_iconst ⟨by decide, by decide⟩ d_X1_multiplyByKey_1 ?_
  refine j_icmp_lt (tgt := 11) d_X1_multiplyByKey_2 (by decide) (fun h2 => ?_) (fun h2 => ?_)
  · exact j_vret d_X1_multiplyByKey_11 rfl rfl ⟨rfl, rfl⟩
  · refine j_iload_n rfl d_X1_multiplyByKey_5 rfl ?_
    refine j_bipush ⟨by decide, by decide⟩ (by decide +kernel) d_X1_multiplyByKey_6 ?_
    refine j_icmp_le (tgt := 12) d_X1_multiplyByKey_8 (by decide) (fun h3 => ?_) (fun h3 => ?_)
    · refine j_iconst ⟨by decide, by decide⟩ d_X1_multiplyByKey_12 ?_
      refine j_istore (lv' := [some (.inr (.inr 278)), some (.inr (.inr a0)), some (.inl a1), some (.inl a2), some (.inl 0)]) d_X1_multiplyByKey_13 (Nat.le_of_ble_eq_true rfl) rfl ?_
      exact j_wk [true, true, true, true, true] rfl rfl (T_X1_multiplyByKey_15 G a0 a1 a2 0 M0 ht1)
    · exact j_vret d_X1_multiplyByKey_11 rfl rfl ⟨rfl, rfl⟩
set_option maxHeartbeats 4000000 in
set_option maxRecDepth 100000 in
theorem c_X1_multiplyByKey (G : tp_G) (a0 : Int) (a1 : Int) (a2 : Int) (M0 : tp_M) (r : tp_M) (h : f_X1_multiplyByKey a0 a1 a2 M0 = some r) (l : Launch) : Met l y_X1_multiplyByKey (tp_ws y_X1_multiplyByKey i_X1_multiplyByKey) (tp_rm 2) (tp_Pc G [.inr (.inr 278), .inr (.inr a0), .inl a1, .inl a2] tp_NC (tp_st M0)) (tp_Q G (o_X1_multiplyByKey r)) 0 0 (tp_A G) :=
  tp_met (I := i_X1_multiplyByKey) (y := y_X1_multiplyByKey) (by decide +kernel) (Eq.refl "TypesAtPrime$Grower") (Eq.refl "multiplyByKey") (lv := [some (.inr (.inr 278)), some (.inr (.inr a0)), some (.inl a1), some (.inl a2), none]) rfl (Nat.le_of_ble_eq_true rfl) (T_X1_multiplyByKey G a0 a1 a2 M0) h l
theorem wd_165 : (.fieldLink "TypesAtPrime$Grower" 177 "TypesAtPrime$Knot" "level" "I" : Cond) ∈ lw_tbl := List.mem_append_right _ (List.mem_of_getElem? (i := 165) (by decide +kernel))
theorem fl_Grower_177 : tp_F "TypesAtPrime$Grower" 177 2 0 0 := ⟨_, _, _, rfl, by decide, rfl, wd_165, rfl, by decide⟩
theorem wd_350 : (.fieldLink "TypesAtPrime$Grower" 180 "TypesAtPrime$Path" "monomial" "[[I" : Cond) ∈ lw_tbl := List.mem_append_right _ (List.mem_of_getElem? (i := 350) (by decide +kernel))
theorem fl_Grower_180 : tp_F "TypesAtPrime$Grower" 180 5 4 2 := ⟨_, _, _, rfl, by decide, rfl, wd_350, rfl, by decide⟩
theorem tg_284 : tp_tg 284 = 23 := by decide +kernel
theorem al_284 : tp_al 284 = 8 := by decide +kernel
theorem rv_279_4 : tp_rv 279 4 = 284 := by decide +kernel
theorem aa_284 : ∀ i : Int, 0 ≤ i → i < 8 → tp_rv 284 i.toNat = (285 + i) ∧ tp_tg (285 + i) = 21 ∧ tp_al (285 + i) = 8 := by
  intro i h0 h1
  have h : (List.range 8).all (fun j => decide (tp_rv 284 j = (285 + (j : Int)) ∧ tp_tg (285 + (j : Int)) = 21 ∧ tp_al (285 + (j : Int)) = 8)) = true := by decide +kernel
  have h3 := of_decide_eq_true (List.all_eq_true.mp h i.toNat (List.mem_range.mpr (by omega)))
  have h4 : ((i.toNat : Nat) : Int) = i := by omega
  rw [h4] at h3
  exact h3
theorem wd_375 : (.fieldLink "TypesAtPrime$Grower" 31 "TypesAtPrime$Grower" "factor" "[J" : Cond) ∈ lw_tbl := List.mem_append_right _ (List.mem_of_getElem? (i := 375) (by decide +kernel))
theorem fl_Grower_31 : tp_F "TypesAtPrime$Grower" 31 1 6 2 := ⟨_, _, _, rfl, by decide, rfl, wd_375, rfl, by decide⟩
theorem tg_305 : tp_tg 305 = 22 := by decide +kernel
theorem al_305 : tp_al 305 = 9 := by decide +kernel
theorem rv_278_6 : tp_rv 278 6 = 305 := by decide +kernel
theorem cs_Grower_183 : tp_CS "TypesAtPrime$Grower" 183 y_J7_fill_d0a16 i_J7_fill_d0a16 2 := ⟨wd_549, wd_14, by decide, by decide, by decide +kernel⟩
theorem wd_678 : (.methodLink "TypesAtPrime$Grower" 183 ⟨"java/util/Arrays", "fill", "([JJ)V"⟩ : Cond) ∈ lw_tbl := List.mem_append_right _ (List.mem_of_getElem? (i := 678) (by decide +kernel))
theorem wd_682 : (.code ⟨"TypesAtPrime$Numbers", "power", "(I)J"⟩ prog_6_method_4_code 5 (some .long) : Cond) ∈ lw_tbl := List.mem_append_right _ (List.mem_of_getElem? (i := 682) (by decide +kernel))
theorem cs_Grower_189 : tp_CS "TypesAtPrime$Grower" 189 y_X4_power i_X4_power 1 := ⟨wd_682, wd_2, by decide, by decide, by decide +kernel⟩
theorem wd_679 : (.methodLink "TypesAtPrime$Grower" 189 ⟨"TypesAtPrime$Numbers", "power", "(I)J"⟩ : Cond) ∈ lw_tbl := List.mem_append_right _ (List.mem_of_getElem? (i := 679) (by decide +kernel))
theorem wd_680 : (.instanceMethod ⟨"TypesAtPrime$Numbers", "power", "(I)J"⟩ : Cond) ∈ lw_tbl := List.mem_append_right _ (List.mem_of_getElem? (i := 680) (by decide +kernel))
theorem wd_681 : (.selects "TypesAtPrime$Numbers" ⟨"TypesAtPrime$Numbers", "power", "(I)J"⟩ ⟨"TypesAtPrime$Numbers", "power", "(I)J"⟩ : Cond) ∈ lw_tbl := List.mem_append_right _ (List.mem_of_getElem? (i := 681) (by decide +kernel))
theorem wd_345 : (.fieldLink "TypesAtPrime$Grower" 197 "TypesAtPrime$Path" "ramification" "[I" : Cond) ∈ lw_tbl := List.mem_append_right _ (List.mem_of_getElem? (i := 345) (by decide +kernel))
theorem fl_Grower_197 : tp_F "TypesAtPrime$Grower" 197 5 1 2 := ⟨_, _, _, rfl, by decide, rfl, wd_345, rfl, by decide⟩
theorem tg_281 : tp_tg 281 = 21 := by decide +kernel
theorem al_281 : tp_al 281 = 8 := by decide +kernel
theorem rv_279_1 : tp_rv 279 1 = 281 := by decide +kernel
theorem wd_686 : (.code ⟨"TypesAtPrime$Grower", "multiplyByKey", "([JII)V"⟩ prog_3_method_7_code 5 (none : Option Jvm.ClassFile.FieldType) : Cond) ∈ lw_tbl := List.mem_append_right _ (List.mem_of_getElem? (i := 686) (by decide +kernel))
theorem wd_10 : (.initialized "TypesAtPrime$Grower" : Cond) ∈ lw_tbl := List.mem_append_right _ (List.mem_of_getElem? (i := 10) (by decide +kernel))
theorem cs_Grower_193 : tp_CS "TypesAtPrime$Grower" 193 y_X1_multiplyByKey i_X1_multiplyByKey 3 := ⟨wd_686, wd_10, by decide, by decide, by decide +kernel⟩
theorem wd_683 : (.methodLink "TypesAtPrime$Grower" 193 ⟨"TypesAtPrime$Grower", "multiplyByKey", "([JII)V"⟩ : Cond) ∈ lw_tbl := List.mem_append_right _ (List.mem_of_getElem? (i := 683) (by decide +kernel))
theorem wd_685 : (.instanceMethod ⟨"TypesAtPrime$Grower", "multiplyByKey", "([JII)V"⟩ : Cond) ∈ lw_tbl := List.mem_append_right _ (List.mem_of_getElem? (i := 685) (by decide +kernel))
theorem ws_21 : (.selects "TypesAtPrime$Grower" ⟨"TypesAtPrime$Grower", "multiplyByKey", "([JII)V"⟩ ⟨"TypesAtPrime$Grower", "multiplyByKey", "([JII)V"⟩ : Cond) ∈ lw_tbl := List.mem_append_left _ (List.mem_of_getElem? (i := 21) (by decide +kernel))
def y_X1_writeKey : MethodName := ⟨"TypesAtPrime$Grower", "writeKey", "(LTypesAtPrime$Knot;)V"⟩
abbrev i_X1_writeKey : tp_I := (prog_3_method_6_code, "TypesAtPrime$Grower", none, 5, "writeKey")
abbrev o_X1_writeKey : tp_M → tp_O := fun r => (none, tp_NC, tp_st r)
theorem d_X1_writeKey_0 : decode prog_3_method_6_code 0 = .ok (.aload_n 1, 1) := by decide +kernel
theorem d_X1_writeKey_1 : decode prog_3_method_6_code 1 = .ok (.getfield 177, 3) := by decide +kernel
theorem d_X1_writeKey_4 : decode prog_3_method_6_code 4 = .ok (.iconst 1, 1) := by decide +kernel
theorem d_X1_writeKey_5 : decode prog_3_method_6_code 5 = .ok (.isub, 1) := by decide +kernel
theorem d_X1_writeKey_6 : decode prog_3_method_6_code 6 = .ok (.istore_n 2, 1) := by decide +kernel
theorem d_X1_writeKey_7 : decode prog_3_method_6_code 7 = .ok (.iload_n 2, 1) := by decide +kernel
theorem d_X1_writeKey_8 : decode prog_3_method_6_code 8 = .ok (.iconst 1, 1) := by decide +kernel
theorem d_X1_writeKey_9 : decode prog_3_method_6_code 9 = .ok (.if_icmp .lt 9, 3) := by decide +kernel
theorem d_X1_writeKey_12 : decode prog_3_method_6_code 12 = .ok (.iload_n 2, 1) := by decide +kernel
theorem d_X1_writeKey_13 : decode prog_3_method_6_code 13 = .ok (.bipush 6, 2) := by decide +kernel
theorem d_X1_writeKey_15 : decode prog_3_method_6_code 15 = .ok (.if_icmp .le 4, 3) := by decide +kernel
theorem d_X1_writeKey_18 : decode prog_3_method_6_code 18 = .ok (.return_, 1) := by decide +kernel
theorem d_X1_writeKey_19 : decode prog_3_method_6_code 19 = .ok (.aload_n 0, 1) := by decide +kernel
theorem d_X1_writeKey_20 : decode prog_3_method_6_code 20 = .ok (.getfield 12, 3) := by decide +kernel
theorem d_X1_writeKey_23 : decode prog_3_method_6_code 23 = .ok (.getfield 180, 3) := by decide +kernel
theorem d_X1_writeKey_26 : decode prog_3_method_6_code 26 = .ok (.iload_n 2, 1) := by decide +kernel
theorem d_X1_writeKey_27 : decode prog_3_method_6_code 27 = .ok (.aaload, 1) := by decide +kernel
theorem d_X1_writeKey_28 : decode prog_3_method_6_code 28 = .ok (.astore_n 3, 1) := by decide +kernel
theorem d_X1_writeKey_29 : decode prog_3_method_6_code 29 = .ok (.aload_n 0, 1) := by decide +kernel
theorem d_X1_writeKey_30 : decode prog_3_method_6_code 30 = .ok (.getfield 31, 3) := by decide +kernel
theorem d_X1_writeKey_33 : decode prog_3_method_6_code 33 = .ok (.lconst 0, 1) := by decide +kernel
theorem d_X1_writeKey_34 : decode prog_3_method_6_code 34 = .ok (.invokestatic 183, 3) := by decide +kernel
theorem d_X1_writeKey_37 : decode prog_3_method_6_code 37 = .ok (.aload_n 0, 1) := by decide +kernel
theorem d_X1_writeKey_38 : decode prog_3_method_6_code 38 = .ok (.getfield 31, 3) := by decide +kernel
theorem d_X1_writeKey_41 : decode prog_3_method_6_code 41 = .ok (.iconst 0, 1) := by decide +kernel
theorem d_X1_writeKey_42 : decode prog_3_method_6_code 42 = .ok (.aload_n 0, 1) := by decide +kernel
theorem d_X1_writeKey_43 : decode prog_3_method_6_code 43 = .ok (.getfield 53, 3) := by decide +kernel
theorem d_X1_writeKey_46 : decode prog_3_method_6_code 46 = .ok (.aload_n 3, 1) := by decide +kernel
theorem d_X1_writeKey_47 : decode prog_3_method_6_code 47 = .ok (.iconst 0, 1) := by decide +kernel
theorem d_X1_writeKey_48 : decode prog_3_method_6_code 48 = .ok (.iaload, 1) := by decide +kernel
theorem d_X1_writeKey_49 : decode prog_3_method_6_code 49 = .ok (.invokevirtual 189, 3) := by decide +kernel
theorem d_X1_writeKey_52 : decode prog_3_method_6_code 52 = .ok (.lastore, 1) := by decide +kernel
theorem d_X1_writeKey_53 : decode prog_3_method_6_code 53 = .ok (.iconst 1, 1) := by decide +kernel
theorem d_X1_writeKey_54 : decode prog_3_method_6_code 54 = .ok (.istore 4, 2) := by decide +kernel
theorem d_X1_writeKey_56 : decode prog_3_method_6_code 56 = .ok (.iload 4, 2) := by decide +kernel
theorem d_X1_writeKey_58 : decode prog_3_method_6_code 58 = .ok (.iload_n 2, 1) := by decide +kernel
theorem d_X1_writeKey_59 : decode prog_3_method_6_code 59 = .ok (.if_icmp .ge 23, 3) := by decide +kernel
theorem d_X1_writeKey_62 : decode prog_3_method_6_code 62 = .ok (.aload_n 0, 1) := by decide +kernel
theorem d_X1_writeKey_63 : decode prog_3_method_6_code 63 = .ok (.aload_n 0, 1) := by decide +kernel
theorem d_X1_writeKey_64 : decode prog_3_method_6_code 64 = .ok (.getfield 31, 3) := by decide +kernel
theorem d_X1_writeKey_67 : decode prog_3_method_6_code 67 = .ok (.iload 4, 2) := by decide +kernel
theorem d_X1_writeKey_69 : decode prog_3_method_6_code 69 = .ok (.aload_n 3, 1) := by decide +kernel
theorem d_X1_writeKey_70 : decode prog_3_method_6_code 70 = .ok (.iload 4, 2) := by decide +kernel
theorem d_X1_writeKey_72 : decode prog_3_method_6_code 72 = .ok (.iaload, 1) := by decide +kernel
theorem d_X1_writeKey_73 : decode prog_3_method_6_code 73 = .ok (.invokevirtual 193, 3) := by decide +kernel
theorem d_X1_writeKey_76 : decode prog_3_method_6_code 76 = .ok (.iinc 4 1, 3) := by decide +kernel
theorem d_X1_writeKey_79 : decode prog_3_method_6_code 79 = .ok (.goto (-23), 3) := by decide +kernel
theorem d_X1_writeKey_82 : decode prog_3_method_6_code 82 = .ok (.aload_n 1, 1) := by decide +kernel
theorem d_X1_writeKey_83 : decode prog_3_method_6_code 83 = .ok (.getfield 174, 3) := by decide +kernel
theorem d_X1_writeKey_86 : decode prog_3_method_6_code 86 = .ok (.iconst 0, 1) := by decide +kernel
theorem d_X1_writeKey_87 : decode prog_3_method_6_code 87 = .ok (.lconst 1, 1) := by decide +kernel
theorem d_X1_writeKey_88 : decode prog_3_method_6_code 88 = .ok (.lastore, 1) := by decide +kernel
theorem d_X1_writeKey_89 : decode prog_3_method_6_code 89 = .ok (.aload_n 0, 1) := by decide +kernel
theorem d_X1_writeKey_90 : decode prog_3_method_6_code 90 = .ok (.aload_n 1, 1) := by decide +kernel
theorem d_X1_writeKey_91 : decode prog_3_method_6_code 91 = .ok (.getfield 174, 3) := by decide +kernel
theorem d_X1_writeKey_94 : decode prog_3_method_6_code 94 = .ok (.iload_n 2, 1) := by decide +kernel
theorem d_X1_writeKey_95 : decode prog_3_method_6_code 95 = .ok (.aload_n 0, 1) := by decide +kernel
theorem d_X1_writeKey_96 : decode prog_3_method_6_code 96 = .ok (.getfield 12, 3) := by decide +kernel
theorem d_X1_writeKey_99 : decode prog_3_method_6_code 99 = .ok (.getfield 197, 3) := by decide +kernel
theorem d_X1_writeKey_102 : decode prog_3_method_6_code 102 = .ok (.iload_n 2, 1) := by decide +kernel
theorem d_X1_writeKey_103 : decode prog_3_method_6_code 103 = .ok (.iaload, 1) := by decide +kernel
theorem d_X1_writeKey_104 : decode prog_3_method_6_code 104 = .ok (.invokevirtual 193, 3) := by decide +kernel
theorem d_X1_writeKey_107 : decode prog_3_method_6_code 107 = .ok (.iconst 0, 1) := by decide +kernel
theorem d_X1_writeKey_108 : decode prog_3_method_6_code 108 = .ok (.istore 4, 2) := by decide +kernel
theorem d_X1_writeKey_110 : decode prog_3_method_6_code 110 = .ok (.iload 4, 2) := by decide +kernel
theorem d_X1_writeKey_112 : decode prog_3_method_6_code 112 = .ok (.bipush 9, 2) := by decide +kernel
theorem d_X1_writeKey_114 : decode prog_3_method_6_code 114 = .ok (.if_icmp .ge 49, 3) := by decide +kernel
theorem d_X1_writeKey_117 : decode prog_3_method_6_code 117 = .ok (.aload_n 1, 1) := by decide +kernel
theorem d_X1_writeKey_118 : decode prog_3_method_6_code 118 = .ok (.getfield 174, 3) := by decide +kernel
theorem d_X1_writeKey_121 : decode prog_3_method_6_code 121 = .ok (.iload 4, 2) := by decide +kernel
theorem d_X1_writeKey_123 : decode prog_3_method_6_code 123 = .ok (.aload_n 0, 1) := by decide +kernel
theorem d_X1_writeKey_124 : decode prog_3_method_6_code 124 = .ok (.getfield 53, 3) := by decide +kernel
theorem d_X1_writeKey_127 : decode prog_3_method_6_code 127 = .ok (.aload_n 1, 1) := by decide +kernel
theorem d_X1_writeKey_128 : decode prog_3_method_6_code 128 = .ok (.getfield 174, 3) := by decide +kernel
theorem d_X1_writeKey_131 : decode prog_3_method_6_code 131 = .ok (.iload 4, 2) := by decide +kernel
theorem d_X1_writeKey_133 : decode prog_3_method_6_code 133 = .ok (.laload, 1) := by decide +kernel
theorem d_X1_writeKey_134 : decode prog_3_method_6_code 134 = .ok (.aload_n 0, 1) := by decide +kernel
theorem d_X1_writeKey_135 : decode prog_3_method_6_code 135 = .ok (.getfield 12, 3) := by decide +kernel
theorem d_X1_writeKey_138 : decode prog_3_method_6_code 138 = .ok (.getfield 108, 3) := by decide +kernel
theorem d_X1_writeKey_141 : decode prog_3_method_6_code 141 = .ok (.iload_n 2, 1) := by decide +kernel
theorem d_X1_writeKey_142 : decode prog_3_method_6_code 142 = .ok (.iaload, 1) := by decide +kernel
theorem d_X1_writeKey_143 : decode prog_3_method_6_code 143 = .ok (.i2l, 1) := by decide +kernel
theorem d_X1_writeKey_144 : decode prog_3_method_6_code 144 = .ok (.aload_n 0, 1) := by decide +kernel
theorem d_X1_writeKey_145 : decode prog_3_method_6_code 145 = .ok (.getfield 31, 3) := by decide +kernel
theorem d_X1_writeKey_148 : decode prog_3_method_6_code 148 = .ok (.iload 4, 2) := by decide +kernel
theorem d_X1_writeKey_150 : decode prog_3_method_6_code 150 = .ok (.laload, 1) := by decide +kernel
theorem d_X1_writeKey_151 : decode prog_3_method_6_code 151 = .ok (.lmul, 1) := by decide +kernel
theorem d_X1_writeKey_152 : decode prog_3_method_6_code 152 = .ok (.lsub, 1) := by decide +kernel
theorem d_X1_writeKey_153 : decode prog_3_method_6_code 153 = .ok (.invokevirtual 67, 3) := by decide +kernel
theorem d_X1_writeKey_156 : decode prog_3_method_6_code 156 = .ok (.lastore, 1) := by decide +kernel
theorem d_X1_writeKey_157 : decode prog_3_method_6_code 157 = .ok (.iinc 4 1, 3) := by decide +kernel
theorem d_X1_writeKey_160 : decode prog_3_method_6_code 160 = .ok (.goto (-50), 3) := by decide +kernel
theorem d_X1_writeKey_163 : decode prog_3_method_6_code 163 = .ok (.return_, 1) := by decide +kernel
def f_X1_writeKey_110B (x1 : Int) (x2 : Int) (rec_110 : Int → tp_M → Option (tp_M)) (x4 : Int) (M0 : tp_M) : Option (tp_M) :=
  if 9 ≤ x4 then
    some M0
  else
    if 0 ≤ x4 ∧ x4 < 9 then
      if 0 ≤ x2 ∧ x2 < 8 then
        if 0 ≤ x4 ∧ x4 < 9 then
          (f_X4_rest (tp_wl ((M0 (x1 + 1) x4) - (tp_wl ((M0 283 x2) * (M0 305 x4))))) M0).bind fun r19 =>
          if 0 ≤ x4 ∧ x4 < 9 then
            tp_mp (tp_up M0 (x1 + 1) x4 r19) fun M21 =>
            tp_lt (tp_w (x4 + 1)) fun y22 =>
            rec_110 y22 M21 else none else none else none else none
set_option maxHeartbeats 4000000 in
set_option maxRecDepth 100000 in
theorem T_X1_writeKey_110B (G : tp_G) (x1 : Int) (x2 : Int) (hg_x1 : tp_tg x1 = 2) (rec_110 : Int → tp_M → Option (tp_M)) (hrec_110 : ∀ (x4' : Int) (M' : tp_M), tp_J i_X1_writeKey (tp_rm 3) G 0 0 o_X1_writeKey tp_NC (tp_st M') 0 0 [some (.inr (.inr 278)), some (.inr (.inr x1)), some (.inl x2), none, some (.inl (x4'))] 110 [] (rec_110 x4' M')) (x4 : Int) (M0 : tp_M) : tp_J i_X1_writeKey (tp_rm 3) G 0 0 o_X1_writeKey tp_NC (tp_st M0) 0 0 [some (.inr (.inr 278)), some (.inr (.inr x1)), some (.inl x2), none, some (.inl x4)] 110 [] (f_X1_writeKey_110B x1 x2 rec_110 x4 M0) := by
  unfold f_X1_writeKey_110B
  refine j_iload d_X1_writeKey_110 rfl ?_
  refine j_bipush ⟨by decide, by decide⟩ (by decide +kernel) d_X1_writeKey_112 ?_
  refine j_icmp_ge (tgt := 163) d_X1_writeKey_114 (by decide) (fun h18 => ?_) (fun h18 => ?_)
  · exact j_vret d_X1_writeKey_163 rfl rfl ⟨rfl, rfl⟩
  · refine j_aload_n rfl d_X1_writeKey_117 rfl ?_
    refine j_getr fl_Grower_174 hg_x1 (fam_2_8 _ hg_x1).1 d_X1_writeKey_118 ?_
    refine j_iload d_X1_writeKey_121 rfl ?_
    refine j_aload_n rfl d_X1_writeKey_123 rfl ?_
    refine j_getr fl_Grower_53 tg_278 rv_278_0 d_X1_writeKey_124 ?_
    refine j_aload_n rfl d_X1_writeKey_127 rfl ?_
    refine j_getr fl_Grower_174 hg_x1 (fam_2_8 _ hg_x1).1 d_X1_writeKey_128 ?_
    refine j_iload d_X1_writeKey_131 rfl ?_
    refine j_lald ((fam_2_8 _ hg_x1).2.1) ((fam_2_8 _ hg_x1).2.2) d_X1_writeKey_133 ?_
    refine j_aload_n rfl d_X1_writeKey_134 rfl ?_
    refine j_getr fl_Grower_12 tg_278 rv_278_2 d_X1_writeKey_135 ?_
    refine j_getr fl_Grower_108 tg_279 rv_279_3 d_X1_writeKey_138 ?_
    refine j_iload_n rfl d_X1_writeKey_141 rfl ?_
    refine j_iald tg_283 al_283 d_X1_writeKey_142 ?_
    refine j_i2l d_X1_writeKey_143 ?_
    refine j_aload_n rfl d_X1_writeKey_144 rfl ?_
    refine j_getr fl_Grower_31 tg_278 rv_278_6 d_X1_writeKey_145 ?_
    refine j_iload d_X1_writeKey_148 rfl ?_
    refine j_lald tg_305 al_305 d_X1_writeKey_150 ?_
    refine j_lmul d_X1_writeKey_151 ?_
    refine j_lsub d_X1_writeKey_152 ?_
    refine j_bind (fun r19 h20 => ?_)
    refine j_callV (y := y_X4_rest) (I' := i_X4_rest) (avs := [.inr (.inl (tp_wl ((M0 (x1 + 1) x4) - (tp_wl ((M0 283 x2) * (M0 305 x4))))))]) (c := 1) (st := [.inl x4, .inr (.inr (x1 + 1))]) (c_X4_rest G (tp_wl ((M0 (x1 + 1) x4) - (tp_wl ((M0 283 x2) * (M0 305 x4))))) M0 r19 h20) cs_Grower_67 wd_641 wd_562 wd_563 tg_1 rfl rfl rfl (Nat.le_of_ble_eq_true rfl) ⟨rfl, rfl⟩ ⟨by decide, by decide⟩ ⟨by decide, by decide⟩ d_X1_writeKey_153 ?_
    refine j_last ((fam_2_8 _ hg_x1).2.1) ((fam_2_8 _ hg_x1).2.2) d_X1_writeKey_156 (fun M21 hM21 => ?_)
    refine j_iincN (lv' := fun y22 => [some (.inr (.inr 278)), some (.inr (.inr x1)), some (.inl x2), none, some (.inl y22)]) d_X1_writeKey_157 rfl (Nat.le_of_ble_eq_true rfl) (fun _ => rfl) (fun y22 hy22 => ?_)
    refine j_goto (tgt := 110) d_X1_writeKey_160 (by decide) ?_
    exact j_wk [true, true, true, false, true] rfl rfl (hrec_110 y22 M21)
def f_X1_writeKey_110 (x1 : Int) (x2 : Int) (x4 : Int) (M0 : tp_M) : Option (tp_M) := tp_lp (σ := Int × tp_M) (fun rec_ u => f_X1_writeKey_110B x1 x2 (fun x4' M0' => rec_ (x4', M0')) u.1 u.2) tp_N (x4, M0)
set_option maxHeartbeats 4000000 in
set_option maxRecDepth 100000 in
theorem T_X1_writeKey_110 (G : tp_G) (x1 : Int) (x2 : Int) (x4 : Int) (M0 : tp_M) (hg_x1 : tp_tg x1 = 2) : tp_J i_X1_writeKey (tp_rm 3) G 0 0 o_X1_writeKey tp_NC (tp_st M0) 0 0 [some (.inr (.inr 278)), some (.inr (.inr x1)), some (.inl x2), none, some (.inl x4)] 110 [] (f_X1_writeKey_110 x1 x2 x4 M0) := by
  unfold f_X1_writeKey_110
  exact j_lp (σ := Int × tp_M) (n' := fun _ => tp_NC) (g' := fun u => tp_st u.2) (k' := fun _ => 0) (q' := fun _ => 0) (lv' := fun u => [some (.inr (.inr 278)), some (.inr (.inr x1)), some (.inl x2), none, some (.inl u.1)]) (fun rec_ hrec u => T_X1_writeKey_110B G x1 x2 hg_x1 (fun x4' M0' => rec_ (x4', M0')) (fun x4' M0' => hrec (x4', M0')) u.1 u.2) tp_N (x4, M0)
def f_X1_writeKey_56B (x1 : Int) (x2 : Int) (x3 : Int) (rec_56 : Int → tp_M → Option (tp_M)) (x4 : Int) (M0 : tp_M) : Option (tp_M) :=
  if x2 ≤ x4 then
    if (0 : Int) ≤ 0 ∧ (0 : Int) < 9 then
      tp_mp (tp_up M0 (x1 + 1) 0 1) fun M15 =>
      if 0 ≤ x2 ∧ x2 < 8 then
        (f_X1_multiplyByKey (x1 + 1) x2 (M15 281 x2) M15).bind fun r16 =>
        f_X1_writeKey_110 x1 x2 0 r16 else none else none
  else
    if 0 ≤ x4 ∧ x4 < 8 then
      (f_X1_multiplyByKey 305 x4 (M0 x3 x4) M0).bind fun r23 =>
      tp_lt (tp_w (x4 + 1)) fun y25 =>
      rec_56 y25 r23 else none
set_option maxHeartbeats 4000000 in
set_option maxRecDepth 100000 in
theorem T_X1_writeKey_56B (G : tp_G) (x1 : Int) (x2 : Int) (x3 : Int) (hg_x1 : tp_tg x1 = 2) (hg_x3 : tp_tg x3 = 21) (hn_x3 : tp_al x3 = 8) (rec_56 : Int → tp_M → Option (tp_M)) (hrec_56 : ∀ (x4' : Int) (M' : tp_M), tp_J i_X1_writeKey (tp_rm 3) G 0 0 o_X1_writeKey tp_NC (tp_st M') 0 0 [some (.inr (.inr 278)), some (.inr (.inr x1)), some (.inl x2), some (.inr (.inr x3)), some (.inl (x4'))] 56 [] (rec_56 x4' M')) (x4 : Int) (M0 : tp_M) : tp_J i_X1_writeKey (tp_rm 3) G 0 0 o_X1_writeKey tp_NC (tp_st M0) 0 0 [some (.inr (.inr 278)), some (.inr (.inr x1)), some (.inl x2), some (.inr (.inr x3)), some (.inl x4)] 56 [] (f_X1_writeKey_56B x1 x2 x3 rec_56 x4 M0) := by
  unfold f_X1_writeKey_56B
  refine j_iload d_X1_writeKey_56 rfl ?_
  refine j_iload_n rfl d_X1_writeKey_58 rfl ?_
  refine j_icmp_ge (tgt := 82) d_X1_writeKey_59 (by decide) (fun h14 => ?_) (fun h14 => ?_)
  · refine j_aload_n rfl d_X1_writeKey_82 rfl ?_
    refine j_getr fl_Grower_174 hg_x1 (fam_2_8 _ hg_x1).1 d_X1_writeKey_83 ?_
    refine j_iconst ⟨by decide, by decide⟩ d_X1_writeKey_86 ?_
    refine j_lconst (x := 1) ⟨by decide, by decide⟩ (by decide +kernel) d_X1_writeKey_87 ?_
    refine j_last ((fam_2_8 _ hg_x1).2.1) ((fam_2_8 _ hg_x1).2.2) d_X1_writeKey_88 (fun M15 hM15 => ?_)
    refine j_aload_n rfl d_X1_writeKey_89 rfl ?_
    refine j_aload_n rfl d_X1_writeKey_90 rfl ?_
    refine j_getr fl_Grower_174 hg_x1 (fam_2_8 _ hg_x1).1 d_X1_writeKey_91 ?_
    refine j_iload_n rfl d_X1_writeKey_94 rfl ?_
    refine j_aload_n rfl d_X1_writeKey_95 rfl ?_
    refine j_getr fl_Grower_12 tg_278 rv_278_2 d_X1_writeKey_96 ?_
    refine j_getr fl_Grower_197 tg_279 rv_279_1 d_X1_writeKey_99 ?_
    refine j_iload_n rfl d_X1_writeKey_102 rfl ?_
    refine j_iald tg_281 al_281 d_X1_writeKey_103 ?_
    refine j_bind (fun r16 h17 => ?_)
    refine j_callV (y := y_X1_multiplyByKey) (I' := i_X1_multiplyByKey) (avs := [.inr (.inr (x1 + 1)), .inl x2, .inl (M15 281 x2)]) (c := 278) (st := []) (c_X1_multiplyByKey G (x1 + 1) x2 (M15 281 x2) M15 r16 h17) cs_Grower_193 wd_683 wd_685 ws_21 tg_278 rfl rfl rfl (Nat.le_of_ble_eq_true rfl) ⟨rfl, rfl⟩ ⟨by decide, by decide⟩ ⟨by decide, by decide⟩ d_X1_writeKey_104 ?_
    refine j_iconst ⟨by decide, by decide⟩ d_X1_writeKey_107 ?_
    refine j_istore (lv' := [some (.inr (.inr 278)), some (.inr (.inr x1)), some (.inl x2), some (.inr (.inr x3)), some (.inl 0)]) d_X1_writeKey_108 (Nat.le_of_ble_eq_true rfl) rfl ?_
    exact j_wk [true, true, true, false, true] rfl rfl (T_X1_writeKey_110 G x1 x2 0 r16 hg_x1)
  · refine j_aload_n rfl d_X1_writeKey_62 rfl ?_
    refine j_aload_n rfl d_X1_writeKey_63 rfl ?_
    refine j_getr fl_Grower_31 tg_278 rv_278_6 d_X1_writeKey_64 ?_
    refine j_iload d_X1_writeKey_67 rfl ?_
    refine j_aload_n rfl d_X1_writeKey_69 rfl ?_
    refine j_iload d_X1_writeKey_70 rfl ?_
    refine j_iald hg_x3 hn_x3 d_X1_writeKey_72 ?_
    refine j_bind (fun r23 h24 => ?_)
    refine j_callV (y := y_X1_multiplyByKey) (I' := i_X1_multiplyByKey) (avs := [.inr (.inr 305), .inl x4, .inl (M0 x3 x4)]) (c := 278) (st := []) (c_X1_multiplyByKey G 305 x4 (M0 x3 x4) M0 r23 h24) cs_Grower_193 wd_683 wd_685 ws_21 tg_278 rfl rfl rfl (Nat.le_of_ble_eq_true rfl) ⟨rfl, rfl⟩ ⟨by decide, by decide⟩ ⟨by decide, by decide⟩ d_X1_writeKey_73 ?_
    refine j_iincN (lv' := fun y25 => [some (.inr (.inr 278)), some (.inr (.inr x1)), some (.inl x2), some (.inr (.inr x3)), some (.inl y25)]) d_X1_writeKey_76 rfl (Nat.le_of_ble_eq_true rfl) (fun _ => rfl) (fun y25 hy25 => ?_)
    refine j_goto (tgt := 56) d_X1_writeKey_79 (by decide) ?_
    exact j_wk [true, true, true, true, true] rfl rfl (hrec_56 y25 r23)
def f_X1_writeKey_56 (x1 : Int) (x2 : Int) (x3 : Int) (x4 : Int) (M0 : tp_M) : Option (tp_M) := tp_lp (σ := Int × tp_M) (fun rec_ u => f_X1_writeKey_56B x1 x2 x3 (fun x4' M0' => rec_ (x4', M0')) u.1 u.2) tp_N (x4, M0)
set_option maxHeartbeats 4000000 in
set_option maxRecDepth 100000 in
theorem T_X1_writeKey_56 (G : tp_G) (x1 : Int) (x2 : Int) (x3 : Int) (x4 : Int) (M0 : tp_M) (hg_x1 : tp_tg x1 = 2) (hg_x3 : tp_tg x3 = 21) (hn_x3 : tp_al x3 = 8) : tp_J i_X1_writeKey (tp_rm 3) G 0 0 o_X1_writeKey tp_NC (tp_st M0) 0 0 [some (.inr (.inr 278)), some (.inr (.inr x1)), some (.inl x2), some (.inr (.inr x3)), some (.inl x4)] 56 [] (f_X1_writeKey_56 x1 x2 x3 x4 M0) := by
  unfold f_X1_writeKey_56
  exact j_lp (σ := Int × tp_M) (n' := fun _ => tp_NC) (g' := fun u => tp_st u.2) (k' := fun _ => 0) (q' := fun _ => 0) (lv' := fun u => [some (.inr (.inr 278)), some (.inr (.inr x1)), some (.inl x2), some (.inr (.inr x3)), some (.inl u.1)]) (fun rec_ hrec u => T_X1_writeKey_56B G x1 x2 x3 hg_x1 hg_x3 hn_x3 (fun x4' M0' => rec_ (x4', M0')) (fun x4' M0' => hrec (x4', M0')) u.1 u.2) tp_N (x4, M0)
def f_X1_writeKey (a0 : Int) (M0 : tp_M) : Option (tp_M) :=
  if tp_tg a0 = 2 then
    tp_lt ((tp_w ((M0 a0 0) - 1))) fun y2 =>
    if y2 < 1 then
      some M0
    else
      if y2 ≤ 6 then
        if 0 ≤ y2 ∧ y2 < 8 then
          tp_lt ((285 + y2)) fun y6 =>
          (f_J7_fill_d0a16 305 0 M0).bind fun r9 =>
          if (0 : Int) ≤ 0 ∧ (0 : Int) < 8 then
            (f_X4_power (r9 y6 0) r9).bind fun r11 =>
            if (0 : Int) ≤ 0 ∧ (0 : Int) < 9 then
              tp_mp (tp_up r9 305 0 r11) fun M13 =>
              f_X1_writeKey_56 a0 y2 y6 1 M13 else none else none else none
      else
        some M0 else none
set_option maxHeartbeats 4000000 in
set_option maxRecDepth 100000 in
theorem T_X1_writeKey (G : tp_G) (a0 : Int) (M0 : tp_M) : tp_J i_X1_writeKey (tp_rm 3) G 0 0 o_X1_writeKey tp_NC (tp_st M0) 0 0 [some (.inr (.inr 278)), some (.inr (.inr a0)), none, none, none] 0 [] (f_X1_writeKey a0 M0) := by
  unfold f_X1_writeKey
  refine tp_chk (fun ht1 => ?_)
  refine j_aload_n rfl d_X1_writeKey_0 rfl ?_
  refine j_geti fl_Grower_177 ht1 d_X1_writeKey_1 ?_
  refine j_iconst ⟨by decide, by decide⟩ d_X1_writeKey_4 ?_
  refine j_isub d_X1_writeKey_5 ?_
  refine j_nmI (fun y2 hy2 => ?_)
  refine j_istore_n (lv' := [some (.inr (.inr 278)), some (.inr (.inr a0)), some (.inl y2), none, none]) rfl d_X1_writeKey_6 (Nat.le_of_ble_eq_true rfl) rfl ?_
  refine j_iload_n rfl d_X1_writeKey_7 rfl ?_
  refine j_iconst ⟨by decide, by decide⟩ d_X1_writeKey_8 ?_
  refine j_icmp_lt (tgt := 18) d_X1_writeKey_9 (by decide) (fun h3 => ?_) (fun h3 => ?_)
  · exact j_vret d_X1_writeKey_18 rfl rfl ⟨rfl, rfl⟩
  · refine j_iload_n rfl d_X1_writeKey_12 rfl ?_
    refine j_bipush ⟨by decide, by decide⟩ (by decide +kernel) d_X1_writeKey_13 ?_
    refine j_icmp_le (tgt := 19) d_X1_writeKey_15 (by decide) (fun h4 => ?_) (fun h4 => ?_)
    · refine j_aload_n rfl d_X1_writeKey_19 rfl ?_
      refine j_getr fl_Grower_12 tg_278 rv_278_2 d_X1_writeKey_20 ?_
      refine j_getr fl_Grower_180 tg_279 rv_279_4 d_X1_writeKey_23 ?_
      refine j_iload_n rfl d_X1_writeKey_26 rfl ?_
      refine j_aald (v := (285 + y2)) (ty := (.array .int)) tg_284 (by decide) al_284 (by decide) rfl d_X1_writeKey_27 (fun h1 h2 => (aa_284 _ h1 h2).1) (fun hi5 => ?_)
      refine j_nmR (fun y6 hy6 => ?_)
      have ht7 : tp_tg y6 = 21 := by rw [hy6]; exact (aa_284 _ hi5.1 hi5.2).2.1
      have hn8 : tp_al y6 = 8 := by rw [hy6]; exact (aa_284 _ hi5.1 hi5.2).2.2
      refine j_astore_n (lv' := [some (.inr (.inr 278)), some (.inr (.inr a0)), some (.inl y2), some (.inr (.inr y6)), none]) rfl d_X1_writeKey_28 (Nat.le_of_ble_eq_true rfl) rfl ?_
      refine j_aload_n rfl d_X1_writeKey_29 rfl ?_
      refine j_getr fl_Grower_31 tg_278 rv_278_6 d_X1_writeKey_30 ?_
      refine j_lconst (x := 0) ⟨by decide, by decide⟩ (by decide +kernel) d_X1_writeKey_33 ?_
      refine j_bind (fun r9 h10 => ?_)
      refine j_callS (y := y_J7_fill_d0a16) (I' := i_J7_fill_d0a16) (avs := [.inr (.inr 305), .inr (.inl 0)]) (st := []) (c_J7_fill_d0a16 G 305 0 M0 r9 h10) cs_Grower_183 wd_678 wd_548 rfl rfl (Nat.le_of_ble_eq_true rfl) ⟨rfl, rfl⟩ ⟨by decide, by decide⟩ ⟨by decide, by decide⟩ d_X1_writeKey_34 ?_
      refine j_aload_n rfl d_X1_writeKey_37 rfl ?_
      refine j_getr fl_Grower_31 tg_278 rv_278_6 d_X1_writeKey_38 ?_
      refine j_iconst ⟨by decide, by decide⟩ d_X1_writeKey_41 ?_
      refine j_aload_n rfl d_X1_writeKey_42 rfl ?_
      refine j_getr fl_Grower_53 tg_278 rv_278_0 d_X1_writeKey_43 ?_
      refine j_aload_n rfl d_X1_writeKey_46 rfl ?_
      refine j_iconst ⟨by decide, by decide⟩ d_X1_writeKey_47 ?_
      refine j_iald ht7 hn8 d_X1_writeKey_48 ?_
      refine j_bind (fun r11 h12 => ?_)
      refine j_callV (y := y_X4_power) (I' := i_X4_power) (avs := [.inl (r9 y6 0)]) (c := 1) (st := [.inl 0, .inr (.inr 305)]) (c_X4_power G (r9 y6 0) r9 r11 h12) cs_Grower_189 wd_679 wd_680 wd_681 tg_1 rfl rfl rfl (Nat.le_of_ble_eq_true rfl) ⟨rfl, rfl⟩ ⟨by decide, by decide⟩ ⟨by decide, by decide⟩ d_X1_writeKey_49 ?_
      refine j_last tg_305 al_305 d_X1_writeKey_52 (fun M13 hM13 => ?_)
      refine j_iconst ⟨by decide, by decide⟩ d_X1_writeKey_53 ?_
      refine j_istore (lv' := [some (.inr (.inr 278)), some (.inr (.inr a0)), some (.inl y2), some (.inr (.inr y6)), some (.inl 1)]) d_X1_writeKey_54 (Nat.le_of_ble_eq_true rfl) rfl ?_
      exact j_wk [true, true, true, true, true] rfl rfl (T_X1_writeKey_56 G a0 y2 y6 1 M13 ht1 ht7 hn8)
    · exact j_vret d_X1_writeKey_18 rfl rfl ⟨rfl, rfl⟩
set_option maxHeartbeats 4000000 in
set_option maxRecDepth 100000 in
theorem c_X1_writeKey (G : tp_G) (a0 : Int) (M0 : tp_M) (r : tp_M) (h : f_X1_writeKey a0 M0 = some r) (l : Launch) : Met l y_X1_writeKey (tp_ws y_X1_writeKey i_X1_writeKey) (tp_rm 3) (tp_Pc G [.inr (.inr 278), .inr (.inr a0)] tp_NC (tp_st M0)) (tp_Q G (o_X1_writeKey r)) 0 0 (tp_A G) :=
  tp_met (I := i_X1_writeKey) (y := y_X1_writeKey) (by decide +kernel) (Eq.refl "TypesAtPrime$Grower") (Eq.refl "writeKey") (lv := [some (.inr (.inr 278)), some (.inr (.inr a0)), none, none, none]) rfl (Nat.le_of_ble_eq_true rfl) (T_X1_writeKey G a0 M0) h l
def y_X4_expand : MethodName := ⟨"TypesAtPrime$Numbers", "expand", "([JII[JI)V"⟩
abbrev i_X4_expand : tp_I := (prog_6_method_7_code, "TypesAtPrime$Numbers", none, 13, "expand")
abbrev o_X4_expand : tp_M → tp_O := fun r => (none, tp_NC, tp_st r)
theorem d_X4_expand_0 : decode prog_6_method_7_code 0 = .ok (.iload_n 2, 1) := by decide +kernel
theorem d_X4_expand_1 : decode prog_6_method_7_code 1 = .ok (.iload_n 3, 1) := by decide +kernel
theorem d_X4_expand_2 : decode prog_6_method_7_code 2 = .ok (.iadd, 1) := by decide +kernel
theorem d_X4_expand_3 : decode prog_6_method_7_code 3 = .ok (.istore 6, 2) := by decide +kernel
theorem d_X4_expand_5 : decode prog_6_method_7_code 5 = .ok (.iload_n 2, 1) := by decide +kernel
theorem d_X4_expand_6 : decode prog_6_method_7_code 6 = .ok (.ifCond .lt 28, 3) := by decide +kernel
theorem d_X4_expand_9 : decode prog_6_method_7_code 9 = .ok (.iload_n 3, 1) := by decide +kernel
theorem d_X4_expand_10 : decode prog_6_method_7_code 10 = .ok (.ifCond .lt 24, 3) := by decide +kernel
theorem d_X4_expand_13 : decode prog_6_method_7_code 13 = .ok (.iload 6, 2) := by decide +kernel
theorem d_X4_expand_15 : decode prog_6_method_7_code 15 = .ok (.aload_n 1, 1) := by decide +kernel
theorem d_X4_expand_16 : decode prog_6_method_7_code 16 = .ok (.arraylength, 1) := by decide +kernel
theorem d_X4_expand_17 : decode prog_6_method_7_code 17 = .ok (.if_icmp .gt 17, 3) := by decide +kernel
theorem d_X4_expand_20 : decode prog_6_method_7_code 20 = .ok (.iload 5, 2) := by decide +kernel
theorem d_X4_expand_22 : decode prog_6_method_7_code 22 = .ok (.iconst 1, 1) := by decide +kernel
theorem d_X4_expand_23 : decode prog_6_method_7_code 23 = .ok (.if_icmp .lt 11, 3) := by decide +kernel
theorem d_X4_expand_26 : decode prog_6_method_7_code 26 = .ok (.iload 5, 2) := by decide +kernel
theorem d_X4_expand_28 : decode prog_6_method_7_code 28 = .ok (.aload 4, 2) := by decide +kernel
theorem d_X4_expand_30 : decode prog_6_method_7_code 30 = .ok (.arraylength, 1) := by decide +kernel
theorem d_X4_expand_31 : decode prog_6_method_7_code 31 = .ok (.if_icmp .lt 4, 3) := by decide +kernel
theorem d_X4_expand_34 : decode prog_6_method_7_code 34 = .ok (.return_, 1) := by decide +kernel
theorem d_X4_expand_35 : decode prog_6_method_7_code 35 = .ok (.iload_n 2, 1) := by decide +kernel
theorem d_X4_expand_36 : decode prog_6_method_7_code 36 = .ok (.istore 7, 2) := by decide +kernel
theorem d_X4_expand_38 : decode prog_6_method_7_code 38 = .ok (.iload 7, 2) := by decide +kernel
theorem d_X4_expand_40 : decode prog_6_method_7_code 40 = .ok (.iload 5, 2) := by decide +kernel
theorem d_X4_expand_42 : decode prog_6_method_7_code 42 = .ok (.iadd, 1) := by decide +kernel
theorem d_X4_expand_43 : decode prog_6_method_7_code 43 = .ok (.iload 6, 2) := by decide +kernel
theorem d_X4_expand_45 : decode prog_6_method_7_code 45 = .ok (.if_icmp .ge 101, 3) := by decide +kernel
theorem d_X4_expand_48 : decode prog_6_method_7_code 48 = .ok (.iload 6, 2) := by decide +kernel
theorem d_X4_expand_50 : decode prog_6_method_7_code 50 = .ok (.iconst 1, 1) := by decide +kernel
theorem d_X4_expand_51 : decode prog_6_method_7_code 51 = .ok (.isub, 1) := by decide +kernel
theorem d_X4_expand_52 : decode prog_6_method_7_code 52 = .ok (.istore 8, 2) := by decide +kernel
theorem d_X4_expand_54 : decode prog_6_method_7_code 54 = .ok (.iload 8, 2) := by decide +kernel
theorem d_X4_expand_56 : decode prog_6_method_7_code 56 = .ok (.iload 7, 2) := by decide +kernel
theorem d_X4_expand_58 : decode prog_6_method_7_code 58 = .ok (.iload 5, 2) := by decide +kernel
theorem d_X4_expand_60 : decode prog_6_method_7_code 60 = .ok (.iadd, 1) := by decide +kernel
theorem d_X4_expand_61 : decode prog_6_method_7_code 61 = .ok (.if_icmp .lt 75, 3) := by decide +kernel
theorem d_X4_expand_64 : decode prog_6_method_7_code 64 = .ok (.aload_n 1, 1) := by decide +kernel
theorem d_X4_expand_65 : decode prog_6_method_7_code 65 = .ok (.iload 8, 2) := by decide +kernel
theorem d_X4_expand_67 : decode prog_6_method_7_code 67 = .ok (.laload, 1) := by decide +kernel
theorem d_X4_expand_68 : decode prog_6_method_7_code 68 = .ok (.lstore 9, 2) := by decide +kernel
theorem d_X4_expand_70 : decode prog_6_method_7_code 70 = .ok (.lload 9, 2) := by decide +kernel
theorem d_X4_expand_72 : decode prog_6_method_7_code 72 = .ok (.lconst 0, 1) := by decide +kernel
theorem d_X4_expand_73 : decode prog_6_method_7_code 73 = .ok (.lcmp, 1) := by decide +kernel
theorem d_X4_expand_74 : decode prog_6_method_7_code 74 = .ok (.ifCond .ne 6, 3) := by decide +kernel
theorem d_X4_expand_77 : decode prog_6_method_7_code 77 = .ok (.goto 53, 3) := by decide +kernel
theorem d_X4_expand_80 : decode prog_6_method_7_code 80 = .ok (.iload 8, 2) := by decide +kernel
theorem d_X4_expand_82 : decode prog_6_method_7_code 82 = .ok (.iload 5, 2) := by decide +kernel
theorem d_X4_expand_84 : decode prog_6_method_7_code 84 = .ok (.isub, 1) := by decide +kernel
theorem d_X4_expand_85 : decode prog_6_method_7_code 85 = .ok (.istore 11, 2) := by decide +kernel
theorem d_X4_expand_87 : decode prog_6_method_7_code 87 = .ok (.iconst 0, 1) := by decide +kernel
theorem d_X4_expand_88 : decode prog_6_method_7_code 88 = .ok (.istore 12, 2) := by decide +kernel
theorem d_X4_expand_90 : decode prog_6_method_7_code 90 = .ok (.iload 12, 2) := by decide +kernel
theorem d_X4_expand_92 : decode prog_6_method_7_code 92 = .ok (.iload 5, 2) := by decide +kernel
theorem d_X4_expand_94 : decode prog_6_method_7_code 94 = .ok (.if_icmp .ge 36, 3) := by decide +kernel
theorem d_X4_expand_97 : decode prog_6_method_7_code 97 = .ok (.aload_n 1, 1) := by decide +kernel
theorem d_X4_expand_98 : decode prog_6_method_7_code 98 = .ok (.iload 11, 2) := by decide +kernel
theorem d_X4_expand_100 : decode prog_6_method_7_code 100 = .ok (.iload 12, 2) := by decide +kernel
theorem d_X4_expand_102 : decode prog_6_method_7_code 102 = .ok (.iadd, 1) := by decide +kernel
theorem d_X4_expand_103 : decode prog_6_method_7_code 103 = .ok (.aload_n 0, 1) := by decide +kernel
theorem d_X4_expand_104 : decode prog_6_method_7_code 104 = .ok (.aload_n 1, 1) := by decide +kernel
theorem d_X4_expand_105 : decode prog_6_method_7_code 105 = .ok (.iload 11, 2) := by decide +kernel
theorem d_X4_expand_107 : decode prog_6_method_7_code 107 = .ok (.iload 12, 2) := by decide +kernel
theorem d_X4_expand_109 : decode prog_6_method_7_code 109 = .ok (.iadd, 1) := by decide +kernel
theorem d_X4_expand_110 : decode prog_6_method_7_code 110 = .ok (.laload, 1) := by decide +kernel
theorem d_X4_expand_111 : decode prog_6_method_7_code 111 = .ok (.lload 9, 2) := by decide +kernel
theorem d_X4_expand_113 : decode prog_6_method_7_code 113 = .ok (.aload 4, 2) := by decide +kernel
theorem d_X4_expand_115 : decode prog_6_method_7_code 115 = .ok (.iload 12, 2) := by decide +kernel
theorem d_X4_expand_117 : decode prog_6_method_7_code 117 = .ok (.laload, 1) := by decide +kernel
theorem d_X4_expand_118 : decode prog_6_method_7_code 118 = .ok (.lmul, 1) := by decide +kernel
theorem d_X4_expand_119 : decode prog_6_method_7_code 119 = .ok (.lsub, 1) := by decide +kernel
theorem d_X4_expand_120 : decode prog_6_method_7_code 120 = .ok (.invokevirtual 35, 3) := by decide +kernel
theorem d_X4_expand_123 : decode prog_6_method_7_code 123 = .ok (.lastore, 1) := by decide +kernel
theorem d_X4_expand_124 : decode prog_6_method_7_code 124 = .ok (.iinc 12 1, 3) := by decide +kernel
theorem d_X4_expand_127 : decode prog_6_method_7_code 127 = .ok (.goto (-37), 3) := by decide +kernel
theorem d_X4_expand_130 : decode prog_6_method_7_code 130 = .ok (.iinc 8 (-1), 3) := by decide +kernel
theorem d_X4_expand_133 : decode prog_6_method_7_code 133 = .ok (.goto (-79), 3) := by decide +kernel
theorem d_X4_expand_136 : decode prog_6_method_7_code 136 = .ok (.iload 7, 2) := by decide +kernel
theorem d_X4_expand_138 : decode prog_6_method_7_code 138 = .ok (.iload 5, 2) := by decide +kernel
theorem d_X4_expand_140 : decode prog_6_method_7_code 140 = .ok (.iadd, 1) := by decide +kernel
theorem d_X4_expand_141 : decode prog_6_method_7_code 141 = .ok (.istore 7, 2) := by decide +kernel
theorem d_X4_expand_143 : decode prog_6_method_7_code 143 = .ok (.goto (-105), 3) := by decide +kernel
theorem d_X4_expand_146 : decode prog_6_method_7_code 146 = .ok (.return_, 1) := by decide +kernel
def f_X4_expand_130 (rec_38 : Int → tp_M → Option (tp_M)) (rec_54 : Int → tp_M → Option (tp_M)) (x1 : Int) (x4 : Int) (x5 : Int) (x6 : Int) (x7 : Int) (x8 : Int) (M0 : tp_M) : Option (tp_M) :=
  tp_lt (tp_w (x8 + (-1))) fun y17 =>
  rec_54 y17 M0
set_option maxHeartbeats 4000000 in
set_option maxRecDepth 100000 in
theorem T_X4_expand_130 (G : tp_G) (rec_38 : Int → tp_M → Option (tp_M)) (rec_54 : Int → tp_M → Option (tp_M)) (x1 : Int) (x4 : Int) (x5 : Int) (x6 : Int) (x7 : Int) (x8 : Int) (M0 : tp_M) (hrec_38 : ∀ (x7' : Int) (M' : tp_M), tp_J i_X4_expand (tp_rm 1) G 0 0 o_X4_expand tp_NC (tp_st M') 0 0 [some (.inr (.inr 1)), some (.inr (.inr x1)), none, none, some (.inr (.inr x4)), some (.inl x5), some (.inl x6), some (.inl (x7')), none, none, none, none, none] 38 [] (rec_38 x7' M')) (hrec_54 : ∀ (x8' : Int) (M' : tp_M), tp_J i_X4_expand (tp_rm 1) G 0 0 o_X4_expand tp_NC (tp_st M') 0 0 [some (.inr (.inr 1)), some (.inr (.inr x1)), none, none, some (.inr (.inr x4)), some (.inl x5), some (.inl x6), some (.inl x7), some (.inl (x8')), none, none, none, none] 54 [] (rec_54 x8' M')) (hg_x1 : tp_tg x1 = 22) (hg_x4 : tp_tg x4 = 22) : tp_J i_X4_expand (tp_rm 1) G 0 0 o_X4_expand tp_NC (tp_st M0) 0 0 [some (.inr (.inr 1)), some (.inr (.inr x1)), none, none, some (.inr (.inr x4)), some (.inl x5), some (.inl x6), some (.inl x7), some (.inl x8), none, none, none, none] 130 [] (f_X4_expand_130 rec_38 rec_54 x1 x4 x5 x6 x7 x8 M0) := by
  unfold f_X4_expand_130
  refine j_iincN (lv' := fun y17 => [some (.inr (.inr 1)), some (.inr (.inr x1)), none, none, some (.inr (.inr x4)), some (.inl x5), some (.inl x6), some (.inl x7), some (.inl y17), none, none, none, none]) d_X4_expand_130 rfl (Nat.le_of_ble_eq_true rfl) (fun _ => rfl) (fun y17 hy17 => ?_)
  refine j_goto (tgt := 54) d_X4_expand_133 (by decide) ?_
  exact j_wk [true, true, false, false, true, true, true, true, true, false, false, false, false] rfl rfl (hrec_54 y17 M0)
def f_X4_expand_90B (rec_38 : Int → tp_M → Option (tp_M)) (rec_54 : Int → tp_M → Option (tp_M)) (x1 : Int) (x4 : Int) (x5 : Int) (x6 : Int) (x7 : Int) (x8 : Int) (x9 : Int) (x11 : Int) (rec_90 : Int → tp_M → Option (tp_M)) (x12 : Int) (M0 : tp_M) : Option (tp_M) :=
  if x5 ≤ x12 then
    f_X4_expand_130 rec_38 rec_54 x1 x4 x5 x6 x7 x8 M0
  else
    if 0 ≤ (tp_w (x11 + x12)) ∧ (tp_w (x11 + x12)) < tp_al x1 then
      if 0 ≤ x12 ∧ x12 < tp_al x4 then
        (f_X4_rest (tp_wl ((M0 x1 (tp_w (x11 + x12))) - (tp_wl (x9 * (M0 x4 x12))))) M0).bind fun r18 =>
        if 0 ≤ (tp_w (x11 + x12)) ∧ (tp_w (x11 + x12)) < tp_al x1 then
          tp_mp (tp_up M0 x1 (tp_w (x11 + x12)) r18) fun M20 =>
          tp_lt (tp_w (x12 + 1)) fun y21 =>
          rec_90 y21 M20 else none else none else none
set_option maxHeartbeats 4000000 in
set_option maxRecDepth 100000 in
theorem T_X4_expand_90B (G : tp_G) (rec_38 : Int → tp_M → Option (tp_M)) (rec_54 : Int → tp_M → Option (tp_M)) (x1 : Int) (x4 : Int) (x5 : Int) (x6 : Int) (x7 : Int) (x8 : Int) (x9 : Int) (x11 : Int) (hrec_38 : ∀ (x7' : Int) (M' : tp_M), tp_J i_X4_expand (tp_rm 1) G 0 0 o_X4_expand tp_NC (tp_st M') 0 0 [some (.inr (.inr 1)), some (.inr (.inr x1)), none, none, some (.inr (.inr x4)), some (.inl x5), some (.inl x6), some (.inl (x7')), none, none, none, none, none] 38 [] (rec_38 x7' M')) (hrec_54 : ∀ (x8' : Int) (M' : tp_M), tp_J i_X4_expand (tp_rm 1) G 0 0 o_X4_expand tp_NC (tp_st M') 0 0 [some (.inr (.inr 1)), some (.inr (.inr x1)), none, none, some (.inr (.inr x4)), some (.inl x5), some (.inl x6), some (.inl x7), some (.inl (x8')), none, none, none, none] 54 [] (rec_54 x8' M')) (hg_x1 : tp_tg x1 = 22) (hg_x4 : tp_tg x4 = 22) (rec_90 : Int → tp_M → Option (tp_M)) (hrec_90 : ∀ (x12' : Int) (M' : tp_M), tp_J i_X4_expand (tp_rm 1) G 0 0 o_X4_expand tp_NC (tp_st M') 0 0 [some (.inr (.inr 1)), some (.inr (.inr x1)), none, none, some (.inr (.inr x4)), some (.inl x5), some (.inl x6), some (.inl x7), some (.inl x8), some (.inr (.inl x9)), none, some (.inl x11), some (.inl (x12'))] 90 [] (rec_90 x12' M')) (x12 : Int) (M0 : tp_M) : tp_J i_X4_expand (tp_rm 1) G 0 0 o_X4_expand tp_NC (tp_st M0) 0 0 [some (.inr (.inr 1)), some (.inr (.inr x1)), none, none, some (.inr (.inr x4)), some (.inl x5), some (.inl x6), some (.inl x7), some (.inl x8), some (.inr (.inl x9)), none, some (.inl x11), some (.inl x12)] 90 [] (f_X4_expand_90B rec_38 rec_54 x1 x4 x5 x6 x7 x8 x9 x11 rec_90 x12 M0) := by
  unfold f_X4_expand_90B
  refine j_iload d_X4_expand_90 rfl ?_
  refine j_iload d_X4_expand_92 rfl ?_
  refine j_icmp_ge (tgt := 130) d_X4_expand_94 (by decide) (fun h16 => ?_) (fun h16 => ?_)
  · exact j_wk [true, true, false, false, true, true, true, true, true, false, false, false, false] rfl rfl (T_X4_expand_130 G rec_38 rec_54 x1 x4 x5 x6 x7 x8 M0 hrec_38 hrec_54 hg_x1 hg_x4)
  · refine j_aload_n rfl d_X4_expand_97 rfl ?_
    refine j_iload d_X4_expand_98 rfl ?_
    refine j_iload d_X4_expand_100 rfl ?_
    refine j_iadd d_X4_expand_102 ?_
    refine j_aload_n rfl d_X4_expand_103 rfl ?_
    refine j_aload_n rfl d_X4_expand_104 rfl ?_
    refine j_iload d_X4_expand_105 rfl ?_
    refine j_iload d_X4_expand_107 rfl ?_
    refine j_iadd d_X4_expand_109 ?_
    refine j_lald hg_x1 rfl d_X4_expand_110 ?_
    refine j_lload d_X4_expand_111 rfl ?_
    refine j_aload d_X4_expand_113 rfl ?_
    refine j_iload d_X4_expand_115 rfl ?_
    refine j_lald hg_x4 rfl d_X4_expand_117 ?_
    refine j_lmul d_X4_expand_118 ?_
    refine j_lsub d_X4_expand_119 ?_
    refine j_bind (fun r18 h19 => ?_)
    refine j_callV (y := y_X4_rest) (I' := i_X4_rest) (avs := [.inr (.inl (tp_wl ((M0 x1 (tp_w (x11 + x12))) - (tp_wl (x9 * (M0 x4 x12))))))]) (c := 1) (st := [.inl (tp_w (x11 + x12)), .inr (.inr x1)]) (c_X4_rest G (tp_wl ((M0 x1 (tp_w (x11 + x12))) - (tp_wl (x9 * (M0 x4 x12))))) M0 r18 h19) cs_Numbers_35 wd_569 wd_562 wd_563 tg_1 rfl rfl rfl (Nat.le_of_ble_eq_true rfl) ⟨rfl, rfl⟩ ⟨by decide, by decide⟩ ⟨by decide, by decide⟩ d_X4_expand_120 ?_
    refine j_last hg_x1 rfl d_X4_expand_123 (fun M20 hM20 => ?_)
    refine j_iincN (lv' := fun y21 => [some (.inr (.inr 1)), some (.inr (.inr x1)), none, none, some (.inr (.inr x4)), some (.inl x5), some (.inl x6), some (.inl x7), some (.inl x8), some (.inr (.inl x9)), none, some (.inl x11), some (.inl y21)]) d_X4_expand_124 rfl (Nat.le_of_ble_eq_true rfl) (fun _ => rfl) (fun y21 hy21 => ?_)
    refine j_goto (tgt := 90) d_X4_expand_127 (by decide) ?_
    exact j_wk [true, true, false, false, true, true, true, true, true, true, false, true, true] rfl rfl (hrec_90 y21 M20)
def f_X4_expand_90 (rec_38 : Int → tp_M → Option (tp_M)) (rec_54 : Int → tp_M → Option (tp_M)) (x1 : Int) (x4 : Int) (x5 : Int) (x6 : Int) (x7 : Int) (x8 : Int) (x9 : Int) (x11 : Int) (x12 : Int) (M0 : tp_M) : Option (tp_M) := tp_lp (σ := Int × tp_M) (fun rec_ u => f_X4_expand_90B rec_38 rec_54 x1 x4 x5 x6 x7 x8 x9 x11 (fun x12' M0' => rec_ (x12', M0')) u.1 u.2) tp_N (x12, M0)
set_option maxHeartbeats 4000000 in
set_option maxRecDepth 100000 in
theorem T_X4_expand_90 (G : tp_G) (rec_38 : Int → tp_M → Option (tp_M)) (rec_54 : Int → tp_M → Option (tp_M)) (x1 : Int) (x4 : Int) (x5 : Int) (x6 : Int) (x7 : Int) (x8 : Int) (x9 : Int) (x11 : Int) (x12 : Int) (M0 : tp_M) (hrec_38 : ∀ (x7' : Int) (M' : tp_M), tp_J i_X4_expand (tp_rm 1) G 0 0 o_X4_expand tp_NC (tp_st M') 0 0 [some (.inr (.inr 1)), some (.inr (.inr x1)), none, none, some (.inr (.inr x4)), some (.inl x5), some (.inl x6), some (.inl (x7')), none, none, none, none, none] 38 [] (rec_38 x7' M')) (hrec_54 : ∀ (x8' : Int) (M' : tp_M), tp_J i_X4_expand (tp_rm 1) G 0 0 o_X4_expand tp_NC (tp_st M') 0 0 [some (.inr (.inr 1)), some (.inr (.inr x1)), none, none, some (.inr (.inr x4)), some (.inl x5), some (.inl x6), some (.inl x7), some (.inl (x8')), none, none, none, none] 54 [] (rec_54 x8' M')) (hg_x1 : tp_tg x1 = 22) (hg_x4 : tp_tg x4 = 22) : tp_J i_X4_expand (tp_rm 1) G 0 0 o_X4_expand tp_NC (tp_st M0) 0 0 [some (.inr (.inr 1)), some (.inr (.inr x1)), none, none, some (.inr (.inr x4)), some (.inl x5), some (.inl x6), some (.inl x7), some (.inl x8), some (.inr (.inl x9)), none, some (.inl x11), some (.inl x12)] 90 [] (f_X4_expand_90 rec_38 rec_54 x1 x4 x5 x6 x7 x8 x9 x11 x12 M0) := by
  unfold f_X4_expand_90
  exact j_lp (σ := Int × tp_M) (n' := fun _ => tp_NC) (g' := fun u => tp_st u.2) (k' := fun _ => 0) (q' := fun _ => 0) (lv' := fun u => [some (.inr (.inr 1)), some (.inr (.inr x1)), none, none, some (.inr (.inr x4)), some (.inl x5), some (.inl x6), some (.inl x7), some (.inl x8), some (.inr (.inl x9)), none, some (.inl x11), some (.inl u.1)]) (fun rec_ hrec u => T_X4_expand_90B G rec_38 rec_54 x1 x4 x5 x6 x7 x8 x9 x11 hrec_38 hrec_54 hg_x1 hg_x4 (fun x12' M0' => rec_ (x12', M0')) (fun x12' M0' => hrec (x12', M0')) u.1 u.2) tp_N (x12, M0)
def f_X4_expand_54B (rec_38 : Int → tp_M → Option (tp_M)) (x1 : Int) (x4 : Int) (x5 : Int) (x6 : Int) (x7 : Int) (rec_54 : Int → tp_M → Option (tp_M)) (x8 : Int) (M0 : tp_M) : Option (tp_M) :=
  if x8 < (tp_w (x7 + x5)) then
    tp_lt ((tp_w (x7 + x5))) fun y12 =>
    rec_38 y12 M0
  else
    if 0 ≤ x8 ∧ x8 < tp_al x1 then
      tp_lt ((M0 x1 x8)) fun y13 =>
      if ¬ y13 = 0 then
        tp_lt ((tp_w (x8 - x5))) fun y15 =>
        f_X4_expand_90 rec_38 rec_54 x1 x4 x5 x6 x7 x8 y13 y15 0 M0
      else
        f_X4_expand_130 rec_38 rec_54 x1 x4 x5 x6 x7 x8 M0 else none
set_option maxHeartbeats 4000000 in
set_option maxRecDepth 100000 in
theorem T_X4_expand_54B (G : tp_G) (rec_38 : Int → tp_M → Option (tp_M)) (x1 : Int) (x4 : Int) (x5 : Int) (x6 : Int) (x7 : Int) (hrec_38 : ∀ (x7' : Int) (M' : tp_M), tp_J i_X4_expand (tp_rm 1) G 0 0 o_X4_expand tp_NC (tp_st M') 0 0 [some (.inr (.inr 1)), some (.inr (.inr x1)), none, none, some (.inr (.inr x4)), some (.inl x5), some (.inl x6), some (.inl (x7')), none, none, none, none, none] 38 [] (rec_38 x7' M')) (hg_x1 : tp_tg x1 = 22) (hg_x4 : tp_tg x4 = 22) (rec_54 : Int → tp_M → Option (tp_M)) (hrec_54 : ∀ (x8' : Int) (M' : tp_M), tp_J i_X4_expand (tp_rm 1) G 0 0 o_X4_expand tp_NC (tp_st M') 0 0 [some (.inr (.inr 1)), some (.inr (.inr x1)), none, none, some (.inr (.inr x4)), some (.inl x5), some (.inl x6), some (.inl x7), some (.inl (x8')), none, none, none, none] 54 [] (rec_54 x8' M')) (x8 : Int) (M0 : tp_M) : tp_J i_X4_expand (tp_rm 1) G 0 0 o_X4_expand tp_NC (tp_st M0) 0 0 [some (.inr (.inr 1)), some (.inr (.inr x1)), none, none, some (.inr (.inr x4)), some (.inl x5), some (.inl x6), some (.inl x7), some (.inl x8), none, none, none, none] 54 [] (f_X4_expand_54B rec_38 x1 x4 x5 x6 x7 rec_54 x8 M0) := by
  unfold f_X4_expand_54B
  refine j_iload d_X4_expand_54 rfl ?_
  refine j_iload d_X4_expand_56 rfl ?_
  refine j_iload d_X4_expand_58 rfl ?_
  refine j_iadd d_X4_expand_60 ?_
  refine j_icmp_lt (tgt := 136) d_X4_expand_61 (by decide) (fun h11 => ?_) (fun h11 => ?_)
  · refine j_iload d_X4_expand_136 rfl ?_
    refine j_iload d_X4_expand_138 rfl ?_
    refine j_iadd d_X4_expand_140 ?_
    refine j_nmI (fun y12 hy12 => ?_)
    refine j_istore (lv' := [some (.inr (.inr 1)), some (.inr (.inr x1)), none, none, some (.inr (.inr x4)), some (.inl x5), some (.inl x6), some (.inl y12), some (.inl x8), none, none, none, none]) d_X4_expand_141 (Nat.le_of_ble_eq_true rfl) rfl ?_
    refine j_goto (tgt := 38) d_X4_expand_143 (by decide) ?_
    exact j_wk [true, true, false, false, true, true, true, true, false, false, false, false, false] rfl rfl (hrec_38 y12 M0)
  · refine j_aload_n rfl d_X4_expand_64 rfl ?_
    refine j_iload d_X4_expand_65 rfl ?_
    refine j_lald hg_x1 rfl d_X4_expand_67 ?_
    refine j_nmL (fun y13 hy13 => ?_)
    refine j_lstore (lv' := [some (.inr (.inr 1)), some (.inr (.inr x1)), none, none, some (.inr (.inr x4)), some (.inl x5), some (.inl x6), some (.inl x7), some (.inl x8), some (.inr (.inl y13)), none, none, none]) d_X4_expand_68 (Nat.le_of_ble_eq_true rfl) rfl ?_
    refine j_lload d_X4_expand_70 rfl ?_
    refine j_lconst (x := 0) ⟨by decide, by decide⟩ (by decide +kernel) d_X4_expand_72 ?_
    refine j_lcmp_ne (tgt := 80) d_X4_expand_73 rfl d_X4_expand_74 (by decide) (fun h14 => ?_) (fun h14 => ?_)
    · refine j_iload d_X4_expand_80 rfl ?_
      refine j_iload d_X4_expand_82 rfl ?_
      refine j_isub d_X4_expand_84 ?_
      refine j_nmI (fun y15 hy15 => ?_)
      refine j_istore (lv' := [some (.inr (.inr 1)), some (.inr (.inr x1)), none, none, some (.inr (.inr x4)), some (.inl x5), some (.inl x6), some (.inl x7), some (.inl x8), some (.inr (.inl y13)), none, some (.inl y15), none]) d_X4_expand_85 (Nat.le_of_ble_eq_true rfl) rfl ?_
      refine j_iconst ⟨by decide, by decide⟩ d_X4_expand_87 ?_
      refine j_istore (lv' := [some (.inr (.inr 1)), some (.inr (.inr x1)), none, none, some (.inr (.inr x4)), some (.inl x5), some (.inl x6), some (.inl x7), some (.inl x8), some (.inr (.inl y13)), none, some (.inl y15), some (.inl 0)]) d_X4_expand_88 (Nat.le_of_ble_eq_true rfl) rfl ?_
      exact j_wk [true, true, false, false, true, true, true, true, true, true, false, true, true] rfl rfl (T_X4_expand_90 G rec_38 rec_54 x1 x4 x5 x6 x7 x8 y13 y15 0 M0 hrec_38 hrec_54 hg_x1 hg_x4)
    · refine j_goto (tgt := 130) d_X4_expand_77 (by decide) ?_
      exact j_wk [true, true, false, false, true, true, true, true, true, false, false, false, false] rfl rfl (T_X4_expand_130 G rec_38 rec_54 x1 x4 x5 x6 x7 x8 M0 hrec_38 hrec_54 hg_x1 hg_x4)
def f_X4_expand_54 (rec_38 : Int → tp_M → Option (tp_M)) (x1 : Int) (x4 : Int) (x5 : Int) (x6 : Int) (x7 : Int) (x8 : Int) (M0 : tp_M) : Option (tp_M) := tp_lp (σ := Int × tp_M) (fun rec_ u => f_X4_expand_54B rec_38 x1 x4 x5 x6 x7 (fun x8' M0' => rec_ (x8', M0')) u.1 u.2) tp_N (x8, M0)
set_option maxHeartbeats 4000000 in
set_option maxRecDepth 100000 in
theorem T_X4_expand_54 (G : tp_G) (rec_38 : Int → tp_M → Option (tp_M)) (x1 : Int) (x4 : Int) (x5 : Int) (x6 : Int) (x7 : Int) (x8 : Int) (M0 : tp_M) (hrec_38 : ∀ (x7' : Int) (M' : tp_M), tp_J i_X4_expand (tp_rm 1) G 0 0 o_X4_expand tp_NC (tp_st M') 0 0 [some (.inr (.inr 1)), some (.inr (.inr x1)), none, none, some (.inr (.inr x4)), some (.inl x5), some (.inl x6), some (.inl (x7')), none, none, none, none, none] 38 [] (rec_38 x7' M')) (hg_x1 : tp_tg x1 = 22) (hg_x4 : tp_tg x4 = 22) : tp_J i_X4_expand (tp_rm 1) G 0 0 o_X4_expand tp_NC (tp_st M0) 0 0 [some (.inr (.inr 1)), some (.inr (.inr x1)), none, none, some (.inr (.inr x4)), some (.inl x5), some (.inl x6), some (.inl x7), some (.inl x8), none, none, none, none] 54 [] (f_X4_expand_54 rec_38 x1 x4 x5 x6 x7 x8 M0) := by
  unfold f_X4_expand_54
  exact j_lp (σ := Int × tp_M) (n' := fun _ => tp_NC) (g' := fun u => tp_st u.2) (k' := fun _ => 0) (q' := fun _ => 0) (lv' := fun u => [some (.inr (.inr 1)), some (.inr (.inr x1)), none, none, some (.inr (.inr x4)), some (.inl x5), some (.inl x6), some (.inl x7), some (.inl u.1), none, none, none, none]) (fun rec_ hrec u => T_X4_expand_54B G rec_38 x1 x4 x5 x6 x7 hrec_38 hg_x1 hg_x4 (fun x8' M0' => rec_ (x8', M0')) (fun x8' M0' => hrec (x8', M0')) u.1 u.2) tp_N (x8, M0)
def f_X4_expand_38B (x1 : Int) (x4 : Int) (x5 : Int) (x6 : Int) (rec_38 : Int → tp_M → Option (tp_M)) (x7 : Int) (M0 : tp_M) : Option (tp_M) :=
  if x6 ≤ (tp_w (x7 + x5)) then
    some M0
  else
    tp_lt ((tp_w (x6 - 1))) fun y10 =>
    f_X4_expand_54 rec_38 x1 x4 x5 x6 x7 y10 M0
set_option maxHeartbeats 4000000 in
set_option maxRecDepth 100000 in
theorem T_X4_expand_38B (G : tp_G) (x1 : Int) (x4 : Int) (x5 : Int) (x6 : Int) (hg_x1 : tp_tg x1 = 22) (hg_x4 : tp_tg x4 = 22) (rec_38 : Int → tp_M → Option (tp_M)) (hrec_38 : ∀ (x7' : Int) (M' : tp_M), tp_J i_X4_expand (tp_rm 1) G 0 0 o_X4_expand tp_NC (tp_st M') 0 0 [some (.inr (.inr 1)), some (.inr (.inr x1)), none, none, some (.inr (.inr x4)), some (.inl x5), some (.inl x6), some (.inl (x7')), none, none, none, none, none] 38 [] (rec_38 x7' M')) (x7 : Int) (M0 : tp_M) : tp_J i_X4_expand (tp_rm 1) G 0 0 o_X4_expand tp_NC (tp_st M0) 0 0 [some (.inr (.inr 1)), some (.inr (.inr x1)), none, none, some (.inr (.inr x4)), some (.inl x5), some (.inl x6), some (.inl x7), none, none, none, none, none] 38 [] (f_X4_expand_38B x1 x4 x5 x6 rec_38 x7 M0) := by
  unfold f_X4_expand_38B
  refine j_iload d_X4_expand_38 rfl ?_
  refine j_iload d_X4_expand_40 rfl ?_
  refine j_iadd d_X4_expand_42 ?_
  refine j_iload d_X4_expand_43 rfl ?_
  refine j_icmp_ge (tgt := 146) d_X4_expand_45 (by decide) (fun h9 => ?_) (fun h9 => ?_)
  · exact j_vret d_X4_expand_146 rfl rfl ⟨rfl, rfl⟩
  · refine j_iload d_X4_expand_48 rfl ?_
    refine j_iconst ⟨by decide, by decide⟩ d_X4_expand_50 ?_
    refine j_isub d_X4_expand_51 ?_
    refine j_nmI (fun y10 hy10 => ?_)
    refine j_istore (lv' := [some (.inr (.inr 1)), some (.inr (.inr x1)), none, none, some (.inr (.inr x4)), some (.inl x5), some (.inl x6), some (.inl x7), some (.inl y10), none, none, none, none]) d_X4_expand_52 (Nat.le_of_ble_eq_true rfl) rfl ?_
    exact j_wk [true, true, false, false, true, true, true, true, true, false, false, false, false] rfl rfl (T_X4_expand_54 G rec_38 x1 x4 x5 x6 x7 y10 M0 hrec_38 hg_x1 hg_x4)
def f_X4_expand_38 (x1 : Int) (x4 : Int) (x5 : Int) (x6 : Int) (x7 : Int) (M0 : tp_M) : Option (tp_M) := tp_lp (σ := Int × tp_M) (fun rec_ u => f_X4_expand_38B x1 x4 x5 x6 (fun x7' M0' => rec_ (x7', M0')) u.1 u.2) tp_N (x7, M0)
set_option maxHeartbeats 4000000 in
set_option maxRecDepth 100000 in
theorem T_X4_expand_38 (G : tp_G) (x1 : Int) (x4 : Int) (x5 : Int) (x6 : Int) (x7 : Int) (M0 : tp_M) (hg_x1 : tp_tg x1 = 22) (hg_x4 : tp_tg x4 = 22) : tp_J i_X4_expand (tp_rm 1) G 0 0 o_X4_expand tp_NC (tp_st M0) 0 0 [some (.inr (.inr 1)), some (.inr (.inr x1)), none, none, some (.inr (.inr x4)), some (.inl x5), some (.inl x6), some (.inl x7), none, none, none, none, none] 38 [] (f_X4_expand_38 x1 x4 x5 x6 x7 M0) := by
  unfold f_X4_expand_38
  exact j_lp (σ := Int × tp_M) (n' := fun _ => tp_NC) (g' := fun u => tp_st u.2) (k' := fun _ => 0) (q' := fun _ => 0) (lv' := fun u => [some (.inr (.inr 1)), some (.inr (.inr x1)), none, none, some (.inr (.inr x4)), some (.inl x5), some (.inl x6), some (.inl u.1), none, none, none, none, none]) (fun rec_ hrec u => T_X4_expand_38B G x1 x4 x5 x6 hg_x1 hg_x4 (fun x7' M0' => rec_ (x7', M0')) (fun x7' M0' => hrec (x7', M0')) u.1 u.2) tp_N (x7, M0)
def f_X4_expand (a0 : Int) (a1 : Int) (a2 : Int) (a3 : Int) (a4 : Int) (M0 : tp_M) : Option (tp_M) :=
  if tp_tg a0 = 22 then
    if tp_tg a3 = 22 then
      tp_lt ((tp_w (a1 + a2))) fun y3 =>
      if a1 < 0 then
        some M0
      else
        if a2 < 0 then
          some M0
        else
          if (tp_al a0) < y3 then
            some M0
          else
            if a4 < 1 then
              some M0
            else
              if a4 < (tp_al a3) then
                f_X4_expand_38 a0 a3 a4 y3 a1 M0
              else
                some M0 else none else none
set_option maxHeartbeats 4000000 in
set_option maxRecDepth 100000 in
theorem T_X4_expand (G : tp_G) (a0 : Int) (a1 : Int) (a2 : Int) (a3 : Int) (a4 : Int) (M0 : tp_M) : tp_J i_X4_expand (tp_rm 1) G 0 0 o_X4_expand tp_NC (tp_st M0) 0 0 [some (.inr (.inr 1)), some (.inr (.inr a0)), some (.inl a1), some (.inl a2), some (.inr (.inr a3)), some (.inl a4), none, none, none, none, none, none, none] 0 [] (f_X4_expand a0 a1 a2 a3 a4 M0) := by
  unfold f_X4_expand
  refine tp_chk (fun ht1 => ?_)
  refine tp_chk (fun ht2 => ?_)
  refine j_iload_n rfl d_X4_expand_0 rfl ?_
  refine j_iload_n rfl d_X4_expand_1 rfl ?_
  refine j_iadd d_X4_expand_2 ?_
  refine j_nmI (fun y3 hy3 => ?_)
  refine j_istore (lv' := [some (.inr (.inr 1)), some (.inr (.inr a0)), some (.inl a1), some (.inl a2), some (.inr (.inr a3)), some (.inl a4), some (.inl y3), none, none, none, none, none, none]) d_X4_expand_3 (Nat.le_of_ble_eq_true rfl) rfl ?_
  refine j_iload_n rfl d_X4_expand_5 rfl ?_
  refine j_if_lt (tgt := 34) d_X4_expand_6 (by decide) (fun h4 => ?_) (fun h4 => ?_)
  · exact j_vret d_X4_expand_34 rfl rfl ⟨rfl, rfl⟩
  · refine j_iload_n rfl d_X4_expand_9 rfl ?_
    refine j_if_lt (tgt := 34) d_X4_expand_10 (by decide) (fun h5 => ?_) (fun h5 => ?_)
    · exact j_vret d_X4_expand_34 rfl rfl ⟨rfl, rfl⟩
    · refine j_iload d_X4_expand_13 rfl ?_
      refine j_aload_n rfl d_X4_expand_15 rfl ?_
      refine j_alen ht1 (by decide) rfl (tp_al_r _) (ty := .long) (by decide) d_X4_expand_16 ?_
      refine j_icmp_gt (tgt := 34) d_X4_expand_17 (by decide) (fun h6 => ?_) (fun h6 => ?_)
      · exact j_vret d_X4_expand_34 rfl rfl ⟨rfl, rfl⟩
      · refine j_iload d_X4_expand_20 rfl ?_
        refine j_iconst ⟨by decide, by decide⟩ d_X4_expand_22 ?_
        refine j_icmp_lt (tgt := 34) d_X4_expand_23 (by decide) (fun h7 => ?_) (fun h7 => ?_)
        · exact j_vret d_X4_expand_34 rfl rfl ⟨rfl, rfl⟩
        · refine j_iload d_X4_expand_26 rfl ?_
          refine j_aload d_X4_expand_28 rfl ?_
          refine j_alen ht2 (by decide) rfl (tp_al_r _) (ty := .long) (by decide) d_X4_expand_30 ?_
          refine j_icmp_lt (tgt := 35) d_X4_expand_31 (by decide) (fun h8 => ?_) (fun h8 => ?_)
          · refine j_iload_n rfl d_X4_expand_35 rfl ?_
            refine j_istore (lv' := [some (.inr (.inr 1)), some (.inr (.inr a0)), some (.inl a1), some (.inl a2), some (.inr (.inr a3)), some (.inl a4), some (.inl y3), some (.inl a1), none, none, none, none, none]) d_X4_expand_36 (Nat.le_of_ble_eq_true rfl) rfl ?_
            exact j_wk [true, true, false, false, true, true, true, true, false, false, false, false, false] rfl rfl (T_X4_expand_38 G a0 a3 a4 y3 a1 M0 ht1 ht2)
          · exact j_vret d_X4_expand_34 rfl rfl ⟨rfl, rfl⟩
set_option maxHeartbeats 4000000 in
set_option maxRecDepth 100000 in
theorem c_X4_expand (G : tp_G) (a0 : Int) (a1 : Int) (a2 : Int) (a3 : Int) (a4 : Int) (M0 : tp_M) (r : tp_M) (h : f_X4_expand a0 a1 a2 a3 a4 M0 = some r) (l : Launch) : Met l y_X4_expand (tp_ws y_X4_expand i_X4_expand) (tp_rm 1) (tp_Pc G [.inr (.inr 1), .inr (.inr a0), .inl a1, .inl a2, .inr (.inr a3), .inl a4] tp_NC (tp_st M0)) (tp_Q G (o_X4_expand r)) 0 0 (tp_A G) :=
  tp_met (I := i_X4_expand) (y := y_X4_expand) (by decide +kernel) (Eq.refl "TypesAtPrime$Numbers") (Eq.refl "expand") (lv := [some (.inr (.inr 1)), some (.inr (.inr a0)), some (.inl a1), some (.inl a2), some (.inr (.inr a3)), some (.inl a4), none, none, none, none, none, none, none]) rfl (Nat.le_of_ble_eq_true rfl) (T_X4_expand G a0 a1 a2 a3 a4 M0) h l
theorem wd_374 : (.fieldLink "TypesAtPrime$Grower" 28 "TypesAtPrime$Grower" "parts" "[J" : Cond) ∈ lw_tbl := List.mem_append_right _ (List.mem_of_getElem? (i := 374) (by decide +kernel))
theorem fl_Grower_28 : tp_F "TypesAtPrime$Grower" 28 1 5 2 := ⟨_, _, _, rfl, by decide, rfl, wd_374, rfl, by decide⟩
theorem tg_304 : tp_tg 304 = 22 := by decide +kernel
theorem al_304 : tp_al 304 = 18 := by decide +kernel
theorem rv_278_5 : tp_rv 278 5 = 304 := by decide +kernel
theorem wd_373 : (.fieldLink "TypesAtPrime$Grower" 24 "TypesAtPrime$Grower" "polynomial" "[J" : Cond) ∈ lw_tbl := List.mem_append_right _ (List.mem_of_getElem? (i := 373) (by decide +kernel))
theorem fl_Grower_24 : tp_F "TypesAtPrime$Grower" 24 1 4 2 := ⟨_, _, _, rfl, by decide, rfl, wd_373, rfl, by decide⟩
theorem tg_303 : tp_tg 303 = 22 := by decide +kernel
theorem al_303 : tp_al 303 = 9 := by decide +kernel
theorem rv_278_4 : tp_rv 278 4 = 303 := by decide +kernel
theorem wd_706 : (.methodLink "TypesAtPrime$Grower" 231 ⟨"java/lang/System", "arraycopy", "(Ljava/lang/Object;ILjava/lang/Object;II)V"⟩ : Cond) ∈ lw_tbl := List.mem_append_right _ (List.mem_of_getElem? (i := 706) (by decide +kernel))
theorem wd_173 : (.fieldLink "TypesAtPrime$Grower" 237 "TypesAtPrime$Knot" "degree" "I" : Cond) ∈ lw_tbl := List.mem_append_right _ (List.mem_of_getElem? (i := 173) (by decide +kernel))
theorem fl_Grower_237 : tp_F "TypesAtPrime$Grower" 237 2 2 0 := ⟨_, _, _, rfl, by decide, rfl, wd_173, rfl, by decide⟩
theorem wd_568 : (.code ⟨"TypesAtPrime$Numbers", "expand", "([JII[JI)V"⟩ prog_6_method_7_code 13 (none : Option Jvm.ClassFile.FieldType) : Cond) ∈ lw_tbl := List.mem_append_right _ (List.mem_of_getElem? (i := 568) (by decide +kernel))
theorem cs_Grower_238 : tp_CS "TypesAtPrime$Grower" 238 y_X4_expand i_X4_expand 5 := ⟨wd_568, wd_2, by decide, by decide, by decide +kernel⟩
theorem wd_707 : (.methodLink "TypesAtPrime$Grower" 238 ⟨"TypesAtPrime$Numbers", "expand", "([JII[JI)V"⟩ : Cond) ∈ lw_tbl := List.mem_append_right _ (List.mem_of_getElem? (i := 707) (by decide +kernel))
theorem wd_566 : (.instanceMethod ⟨"TypesAtPrime$Numbers", "expand", "([JII[JI)V"⟩ : Cond) ∈ lw_tbl := List.mem_append_right _ (List.mem_of_getElem? (i := 566) (by decide +kernel))
theorem wd_567 : (.selects "TypesAtPrime$Numbers" ⟨"TypesAtPrime$Numbers", "expand", "([JII[JI)V"⟩ ⟨"TypesAtPrime$Numbers", "expand", "([JII[JI)V"⟩ : Cond) ∈ lw_tbl := List.mem_append_right _ (List.mem_of_getElem? (i := 567) (by decide +kernel))
theorem wd_708 : (.methodLink "TypesAtPrime$Grower" 219 ⟨"java/lang/Math", "min", "(II)I"⟩ : Cond) ∈ lw_tbl := List.mem_append_right _ (List.mem_of_getElem? (i := 708) (by decide +kernel))
theorem wd_343 : (.fieldLink "TypesAtPrime$Grower" 242 "TypesAtPrime$Path" "degree" "[I" : Cond) ∈ lw_tbl := List.mem_append_right _ (List.mem_of_getElem? (i := 343) (by decide +kernel))
theorem fl_Grower_242 : tp_F "TypesAtPrime$Grower" 242 5 0 2 := ⟨_, _, _, rfl, by decide, rfl, wd_343, rfl, by decide⟩
theorem tg_280 : tp_tg 280 = 21 := by decide +kernel
theorem al_280 : tp_al 280 = 8 := by decide +kernel
theorem rv_279_0 : tp_rv 279 0 = 280 := by decide +kernel
def y_X1_expandParts : MethodName := ⟨"TypesAtPrime$Grower", "expandParts", "(LTypesAtPrime$Knot;)V"⟩
abbrev i_X1_expandParts : tp_I := (prog_3_method_9_code, "TypesAtPrime$Grower", none, 5, "expandParts")
abbrev o_X1_expandParts : tp_M → tp_O := fun r => (none, tp_NC, tp_st r)
theorem d_X1_expandParts_0 : decode prog_3_method_9_code 0 = .ok (.aload_n 0, 1) := by decide +kernel
theorem d_X1_expandParts_1 : decode prog_3_method_9_code 1 = .ok (.getfield 28, 3) := by decide +kernel
theorem d_X1_expandParts_4 : decode prog_3_method_9_code 4 = .ok (.lconst 0, 1) := by decide +kernel
theorem d_X1_expandParts_5 : decode prog_3_method_9_code 5 = .ok (.invokestatic 183, 3) := by decide +kernel
theorem d_X1_expandParts_8 : decode prog_3_method_9_code 8 = .ok (.aload_n 0, 1) := by decide +kernel
theorem d_X1_expandParts_9 : decode prog_3_method_9_code 9 = .ok (.getfield 24, 3) := by decide +kernel
theorem d_X1_expandParts_12 : decode prog_3_method_9_code 12 = .ok (.iconst 0, 1) := by decide +kernel
theorem d_X1_expandParts_13 : decode prog_3_method_9_code 13 = .ok (.aload_n 0, 1) := by decide +kernel
theorem d_X1_expandParts_14 : decode prog_3_method_9_code 14 = .ok (.getfield 28, 3) := by decide +kernel
theorem d_X1_expandParts_17 : decode prog_3_method_9_code 17 = .ok (.iconst 0, 1) := by decide +kernel
theorem d_X1_expandParts_18 : decode prog_3_method_9_code 18 = .ok (.bipush 9, 2) := by decide +kernel
theorem d_X1_expandParts_20 : decode prog_3_method_9_code 20 = .ok (.invokestatic 231, 3) := by decide +kernel
theorem d_X1_expandParts_23 : decode prog_3_method_9_code 23 = .ok (.aload_n 0, 1) := by decide +kernel
theorem d_X1_expandParts_24 : decode prog_3_method_9_code 24 = .ok (.getfield 53, 3) := by decide +kernel
theorem d_X1_expandParts_27 : decode prog_3_method_9_code 27 = .ok (.aload_n 0, 1) := by decide +kernel
theorem d_X1_expandParts_28 : decode prog_3_method_9_code 28 = .ok (.getfield 28, 3) := by decide +kernel
theorem d_X1_expandParts_31 : decode prog_3_method_9_code 31 = .ok (.iconst 0, 1) := by decide +kernel
theorem d_X1_expandParts_32 : decode prog_3_method_9_code 32 = .ok (.aload_n 0, 1) := by decide +kernel
theorem d_X1_expandParts_33 : decode prog_3_method_9_code 33 = .ok (.getfield 28, 3) := by decide +kernel
theorem d_X1_expandParts_36 : decode prog_3_method_9_code 36 = .ok (.arraylength, 1) := by decide +kernel
theorem d_X1_expandParts_37 : decode prog_3_method_9_code 37 = .ok (.aload_n 1, 1) := by decide +kernel
theorem d_X1_expandParts_38 : decode prog_3_method_9_code 38 = .ok (.getfield 174, 3) := by decide +kernel
theorem d_X1_expandParts_41 : decode prog_3_method_9_code 41 = .ok (.aload_n 1, 1) := by decide +kernel
theorem d_X1_expandParts_42 : decode prog_3_method_9_code 42 = .ok (.getfield 237, 3) := by decide +kernel
theorem d_X1_expandParts_45 : decode prog_3_method_9_code 45 = .ok (.invokevirtual 238, 3) := by decide +kernel
theorem d_X1_expandParts_48 : decode prog_3_method_9_code 48 = .ok (.aload_n 1, 1) := by decide +kernel
theorem d_X1_expandParts_49 : decode prog_3_method_9_code 49 = .ok (.getfield 177, 3) := by decide +kernel
theorem d_X1_expandParts_52 : decode prog_3_method_9_code 52 = .ok (.bipush 6, 2) := by decide +kernel
theorem d_X1_expandParts_54 : decode prog_3_method_9_code 54 = .ok (.invokestatic 219, 3) := by decide +kernel
theorem d_X1_expandParts_57 : decode prog_3_method_9_code 57 = .ok (.iconst 1, 1) := by decide +kernel
theorem d_X1_expandParts_58 : decode prog_3_method_9_code 58 = .ok (.isub, 1) := by decide +kernel
theorem d_X1_expandParts_59 : decode prog_3_method_9_code 59 = .ok (.istore_n 2, 1) := by decide +kernel
theorem d_X1_expandParts_60 : decode prog_3_method_9_code 60 = .ok (.iload_n 2, 1) := by decide +kernel
theorem d_X1_expandParts_61 : decode prog_3_method_9_code 61 = .ok (.iconst 1, 1) := by decide +kernel
theorem d_X1_expandParts_62 : decode prog_3_method_9_code 62 = .ok (.if_icmp .lt 85, 3) := by decide +kernel
theorem d_X1_expandParts_65 : decode prog_3_method_9_code 65 = .ok (.aload_n 0, 1) := by decide +kernel
theorem d_X1_expandParts_66 : decode prog_3_method_9_code 66 = .ok (.getfield 12, 3) := by decide +kernel
theorem d_X1_expandParts_69 : decode prog_3_method_9_code 69 = .ok (.getfield 242, 3) := by decide +kernel
theorem d_X1_expandParts_72 : decode prog_3_method_9_code 72 = .ok (.iload_n 2, 1) := by decide +kernel
theorem d_X1_expandParts_73 : decode prog_3_method_9_code 73 = .ok (.iconst 1, 1) := by decide +kernel
theorem d_X1_expandParts_74 : decode prog_3_method_9_code 74 = .ok (.iadd, 1) := by decide +kernel
theorem d_X1_expandParts_75 : decode prog_3_method_9_code 75 = .ok (.iaload, 1) := by decide +kernel
theorem d_X1_expandParts_76 : decode prog_3_method_9_code 76 = .ok (.istore_n 3, 1) := by decide +kernel
theorem d_X1_expandParts_77 : decode prog_3_method_9_code 77 = .ok (.iload_n 3, 1) := by decide +kernel
theorem d_X1_expandParts_78 : decode prog_3_method_9_code 78 = .ok (.iconst 1, 1) := by decide +kernel
theorem d_X1_expandParts_79 : decode prog_3_method_9_code 79 = .ok (.if_icmp .ge 6, 3) := by decide +kernel
theorem d_X1_expandParts_82 : decode prog_3_method_9_code 82 = .ok (.goto 59, 3) := by decide +kernel
theorem d_X1_expandParts_85 : decode prog_3_method_9_code 85 = .ok (.iconst 0, 1) := by decide +kernel
theorem d_X1_expandParts_86 : decode prog_3_method_9_code 86 = .ok (.istore 4, 2) := by decide +kernel
theorem d_X1_expandParts_88 : decode prog_3_method_9_code 88 = .ok (.iload 4, 2) := by decide +kernel
theorem d_X1_expandParts_90 : decode prog_3_method_9_code 90 = .ok (.iload_n 3, 1) := by decide +kernel
theorem d_X1_expandParts_91 : decode prog_3_method_9_code 91 = .ok (.iadd, 1) := by decide +kernel
theorem d_X1_expandParts_92 : decode prog_3_method_9_code 92 = .ok (.aload_n 0, 1) := by decide +kernel
theorem d_X1_expandParts_93 : decode prog_3_method_9_code 93 = .ok (.getfield 28, 3) := by decide +kernel
theorem d_X1_expandParts_96 : decode prog_3_method_9_code 96 = .ok (.arraylength, 1) := by decide +kernel
theorem d_X1_expandParts_97 : decode prog_3_method_9_code 97 = .ok (.if_icmp .gt 44, 3) := by decide +kernel
theorem d_X1_expandParts_100 : decode prog_3_method_9_code 100 = .ok (.aload_n 0, 1) := by decide +kernel
theorem d_X1_expandParts_101 : decode prog_3_method_9_code 101 = .ok (.getfield 53, 3) := by decide +kernel
theorem d_X1_expandParts_104 : decode prog_3_method_9_code 104 = .ok (.aload_n 0, 1) := by decide +kernel
theorem d_X1_expandParts_105 : decode prog_3_method_9_code 105 = .ok (.getfield 28, 3) := by decide +kernel
theorem d_X1_expandParts_108 : decode prog_3_method_9_code 108 = .ok (.iload 4, 2) := by decide +kernel
theorem d_X1_expandParts_110 : decode prog_3_method_9_code 110 = .ok (.iload_n 3, 1) := by decide +kernel
theorem d_X1_expandParts_111 : decode prog_3_method_9_code 111 = .ok (.aload_n 0, 1) := by decide +kernel
theorem d_X1_expandParts_112 : decode prog_3_method_9_code 112 = .ok (.getfield 12, 3) := by decide +kernel
theorem d_X1_expandParts_115 : decode prog_3_method_9_code 115 = .ok (.getfield 199, 3) := by decide +kernel
theorem d_X1_expandParts_118 : decode prog_3_method_9_code 118 = .ok (.iload_n 2, 1) := by decide +kernel
theorem d_X1_expandParts_119 : decode prog_3_method_9_code 119 = .ok (.aaload, 1) := by decide +kernel
theorem d_X1_expandParts_120 : decode prog_3_method_9_code 120 = .ok (.aload_n 0, 1) := by decide +kernel
theorem d_X1_expandParts_121 : decode prog_3_method_9_code 121 = .ok (.getfield 12, 3) := by decide +kernel
theorem d_X1_expandParts_124 : decode prog_3_method_9_code 124 = .ok (.getfield 242, 3) := by decide +kernel
theorem d_X1_expandParts_127 : decode prog_3_method_9_code 127 = .ok (.iload_n 2, 1) := by decide +kernel
theorem d_X1_expandParts_128 : decode prog_3_method_9_code 128 = .ok (.iaload, 1) := by decide +kernel
theorem d_X1_expandParts_129 : decode prog_3_method_9_code 129 = .ok (.invokevirtual 238, 3) := by decide +kernel
theorem d_X1_expandParts_132 : decode prog_3_method_9_code 132 = .ok (.iload 4, 2) := by decide +kernel
theorem d_X1_expandParts_134 : decode prog_3_method_9_code 134 = .ok (.iload_n 3, 1) := by decide +kernel
theorem d_X1_expandParts_135 : decode prog_3_method_9_code 135 = .ok (.iadd, 1) := by decide +kernel
theorem d_X1_expandParts_136 : decode prog_3_method_9_code 136 = .ok (.istore 4, 2) := by decide +kernel
theorem d_X1_expandParts_138 : decode prog_3_method_9_code 138 = .ok (.goto (-50), 3) := by decide +kernel
theorem d_X1_expandParts_141 : decode prog_3_method_9_code 141 = .ok (.iinc 2 (-1), 3) := by decide +kernel
theorem d_X1_expandParts_144 : decode prog_3_method_9_code 144 = .ok (.goto (-84), 3) := by decide +kernel
theorem d_X1_expandParts_147 : decode prog_3_method_9_code 147 = .ok (.return_, 1) := by decide +kernel
def f_X1_expandParts_141 (rec_60 : Int → tp_M → Option (tp_M)) (x2 : Int) (M0 : tp_M) : Option (tp_M) :=
  tp_lt (tp_w (x2 + (-1))) fun y12 =>
  rec_60 y12 M0
set_option maxHeartbeats 4000000 in
set_option maxRecDepth 100000 in
theorem T_X1_expandParts_141 (G : tp_G) (rec_60 : Int → tp_M → Option (tp_M)) (x2 : Int) (M0 : tp_M) (hrec_60 : ∀ (x2' : Int) (M' : tp_M), tp_J i_X1_expandParts (tp_rm 2) G 0 0 o_X1_expandParts tp_NC (tp_st M') 0 0 [some (.inr (.inr 278)), none, some (.inl (x2')), none, none] 60 [] (rec_60 x2' M')) : tp_J i_X1_expandParts (tp_rm 2) G 0 0 o_X1_expandParts tp_NC (tp_st M0) 0 0 [some (.inr (.inr 278)), none, some (.inl x2), none, none] 141 [] (f_X1_expandParts_141 rec_60 x2 M0) := by
  unfold f_X1_expandParts_141
  refine j_iincN (lv' := fun y12 => [some (.inr (.inr 278)), none, some (.inl y12), none, none]) d_X1_expandParts_141 rfl (Nat.le_of_ble_eq_true rfl) (fun _ => rfl) (fun y12 hy12 => ?_)
  refine j_goto (tgt := 60) d_X1_expandParts_144 (by decide) ?_
  exact j_wk [true, false, true, false, false] rfl rfl (hrec_60 y12 M0)
def f_X1_expandParts_88B (rec_60 : Int → tp_M → Option (tp_M)) (x2 : Int) (x3 : Int) (rec_88 : Int → tp_M → Option (tp_M)) (x4 : Int) (M0 : tp_M) : Option (tp_M) :=
  if 18 < (tp_w (x4 + x3)) then
    f_X1_expandParts_141 rec_60 x2 M0
  else
    if 0 ≤ x2 ∧ x2 < 8 then
      if 0 ≤ x2 ∧ x2 < 8 then
        (f_X4_expand 304 x4 x3 (294 + x2) (M0 280 x2) M0).bind fun r14 =>
        tp_lt ((tp_w (x4 + x3))) fun y16 =>
        rec_88 y16 r14 else none else none
set_option maxHeartbeats 4000000 in
set_option maxRecDepth 100000 in
theorem T_X1_expandParts_88B (G : tp_G) (rec_60 : Int → tp_M → Option (tp_M)) (x2 : Int) (x3 : Int) (hrec_60 : ∀ (x2' : Int) (M' : tp_M), tp_J i_X1_expandParts (tp_rm 2) G 0 0 o_X1_expandParts tp_NC (tp_st M') 0 0 [some (.inr (.inr 278)), none, some (.inl (x2')), none, none] 60 [] (rec_60 x2' M')) (rec_88 : Int → tp_M → Option (tp_M)) (hrec_88 : ∀ (x4' : Int) (M' : tp_M), tp_J i_X1_expandParts (tp_rm 2) G 0 0 o_X1_expandParts tp_NC (tp_st M') 0 0 [some (.inr (.inr 278)), none, some (.inl x2), some (.inl x3), some (.inl (x4'))] 88 [] (rec_88 x4' M')) (x4 : Int) (M0 : tp_M) : tp_J i_X1_expandParts (tp_rm 2) G 0 0 o_X1_expandParts tp_NC (tp_st M0) 0 0 [some (.inr (.inr 278)), none, some (.inl x2), some (.inl x3), some (.inl x4)] 88 [] (f_X1_expandParts_88B rec_60 x2 x3 rec_88 x4 M0) := by
  unfold f_X1_expandParts_88B
  refine j_iload d_X1_expandParts_88 rfl ?_
  refine j_iload_n rfl d_X1_expandParts_90 rfl ?_
  refine j_iadd d_X1_expandParts_91 ?_
  refine j_aload_n rfl d_X1_expandParts_92 rfl ?_
  refine j_getr fl_Grower_28 tg_278 rv_278_5 d_X1_expandParts_93 ?_
  refine j_alen tg_304 (by decide) al_304 ⟨by decide, by decide⟩ (ty := .long) (by decide) d_X1_expandParts_96 ?_
  refine j_icmp_gt (tgt := 141) d_X1_expandParts_97 (by decide) (fun h11 => ?_) (fun h11 => ?_)
  · exact j_wk [true, false, true, false, false] rfl rfl (T_X1_expandParts_141 G rec_60 x2 M0 hrec_60)
  · refine j_aload_n rfl d_X1_expandParts_100 rfl ?_
    refine j_getr fl_Grower_53 tg_278 rv_278_0 d_X1_expandParts_101 ?_
    refine j_aload_n rfl d_X1_expandParts_104 rfl ?_
    refine j_getr fl_Grower_28 tg_278 rv_278_5 d_X1_expandParts_105 ?_
    refine j_iload d_X1_expandParts_108 rfl ?_
    refine j_iload_n rfl d_X1_expandParts_110 rfl ?_
    refine j_aload_n rfl d_X1_expandParts_111 rfl ?_
    refine j_getr fl_Grower_12 tg_278 rv_278_2 d_X1_expandParts_112 ?_
    refine j_getr fl_Grower_199 tg_279 rv_279_5 d_X1_expandParts_115 ?_
    refine j_iload_n rfl d_X1_expandParts_118 rfl ?_
    refine j_aald (v := (294 + x2)) (ty := (.array .long)) tg_293 (by decide) al_293 (by decide) rfl d_X1_expandParts_119 (fun h1 h2 => (aa_293 _ h1 h2).1) (fun hi13 => ?_)
    refine j_aload_n rfl d_X1_expandParts_120 rfl ?_
    refine j_getr fl_Grower_12 tg_278 rv_278_2 d_X1_expandParts_121 ?_
    refine j_getr fl_Grower_242 tg_279 rv_279_0 d_X1_expandParts_124 ?_
    refine j_iload_n rfl d_X1_expandParts_127 rfl ?_
    refine j_iald tg_280 al_280 d_X1_expandParts_128 ?_
    refine j_bind (fun r14 h15 => ?_)
    refine j_callV (y := y_X4_expand) (I' := i_X4_expand) (avs := [.inr (.inr 304), .inl x4, .inl x3, .inr (.inr (294 + x2)), .inl (M0 280 x2)]) (c := 1) (st := []) (c_X4_expand G 304 x4 x3 (294 + x2) (M0 280 x2) M0 r14 h15) cs_Grower_238 wd_707 wd_566 wd_567 tg_1 rfl rfl rfl (Nat.le_of_ble_eq_true rfl) ⟨rfl, rfl⟩ ⟨by decide, by decide⟩ ⟨by decide, by decide⟩ d_X1_expandParts_129 ?_
    refine j_iload d_X1_expandParts_132 rfl ?_
    refine j_iload_n rfl d_X1_expandParts_134 rfl ?_
    refine j_iadd d_X1_expandParts_135 ?_
    refine j_nmI (fun y16 hy16 => ?_)
    refine j_istore (lv' := [some (.inr (.inr 278)), none, some (.inl x2), some (.inl x3), some (.inl y16)]) d_X1_expandParts_136 (Nat.le_of_ble_eq_true rfl) rfl ?_
    refine j_goto (tgt := 88) d_X1_expandParts_138 (by decide) ?_
    exact j_wk [true, false, true, true, true] rfl rfl (hrec_88 y16 r14)
def f_X1_expandParts_88 (rec_60 : Int → tp_M → Option (tp_M)) (x2 : Int) (x3 : Int) (x4 : Int) (M0 : tp_M) : Option (tp_M) := tp_lp (σ := Int × tp_M) (fun rec_ u => f_X1_expandParts_88B rec_60 x2 x3 (fun x4' M0' => rec_ (x4', M0')) u.1 u.2) tp_N (x4, M0)
set_option maxHeartbeats 4000000 in
set_option maxRecDepth 100000 in
theorem T_X1_expandParts_88 (G : tp_G) (rec_60 : Int → tp_M → Option (tp_M)) (x2 : Int) (x3 : Int) (x4 : Int) (M0 : tp_M) (hrec_60 : ∀ (x2' : Int) (M' : tp_M), tp_J i_X1_expandParts (tp_rm 2) G 0 0 o_X1_expandParts tp_NC (tp_st M') 0 0 [some (.inr (.inr 278)), none, some (.inl (x2')), none, none] 60 [] (rec_60 x2' M')) : tp_J i_X1_expandParts (tp_rm 2) G 0 0 o_X1_expandParts tp_NC (tp_st M0) 0 0 [some (.inr (.inr 278)), none, some (.inl x2), some (.inl x3), some (.inl x4)] 88 [] (f_X1_expandParts_88 rec_60 x2 x3 x4 M0) := by
  unfold f_X1_expandParts_88
  exact j_lp (σ := Int × tp_M) (n' := fun _ => tp_NC) (g' := fun u => tp_st u.2) (k' := fun _ => 0) (q' := fun _ => 0) (lv' := fun u => [some (.inr (.inr 278)), none, some (.inl x2), some (.inl x3), some (.inl u.1)]) (fun rec_ hrec u => T_X1_expandParts_88B G rec_60 x2 x3 hrec_60 (fun x4' M0' => rec_ (x4', M0')) (fun x4' M0' => hrec (x4', M0')) u.1 u.2) tp_N (x4, M0)
def f_X1_expandParts_60B (rec_60 : Int → tp_M → Option (tp_M)) (x2 : Int) (M0 : tp_M) : Option (tp_M) :=
  if x2 < 1 then
    some M0
  else
    if 0 ≤ (tp_w (x2 + 1)) ∧ (tp_w (x2 + 1)) < 8 then
      tp_lt ((M0 280 (tp_w (x2 + 1)))) fun y9 =>
      if 1 ≤ y9 then
        f_X1_expandParts_88 rec_60 x2 y9 0 M0
      else
        f_X1_expandParts_141 rec_60 x2 M0 else none
set_option maxHeartbeats 4000000 in
set_option maxRecDepth 100000 in
theorem T_X1_expandParts_60B (G : tp_G) (rec_60 : Int → tp_M → Option (tp_M)) (hrec_60 : ∀ (x2' : Int) (M' : tp_M), tp_J i_X1_expandParts (tp_rm 2) G 0 0 o_X1_expandParts tp_NC (tp_st M') 0 0 [some (.inr (.inr 278)), none, some (.inl (x2')), none, none] 60 [] (rec_60 x2' M')) (x2 : Int) (M0 : tp_M) : tp_J i_X1_expandParts (tp_rm 2) G 0 0 o_X1_expandParts tp_NC (tp_st M0) 0 0 [some (.inr (.inr 278)), none, some (.inl x2), none, none] 60 [] (f_X1_expandParts_60B rec_60 x2 M0) := by
  unfold f_X1_expandParts_60B
  refine j_iload_n rfl d_X1_expandParts_60 rfl ?_
  refine j_iconst ⟨by decide, by decide⟩ d_X1_expandParts_61 ?_
  refine j_icmp_lt (tgt := 147) d_X1_expandParts_62 (by decide) (fun h8 => ?_) (fun h8 => ?_)
  · exact j_vret d_X1_expandParts_147 rfl rfl ⟨rfl, rfl⟩
  · refine j_aload_n rfl d_X1_expandParts_65 rfl ?_
    refine j_getr fl_Grower_12 tg_278 rv_278_2 d_X1_expandParts_66 ?_
    refine j_getr fl_Grower_242 tg_279 rv_279_0 d_X1_expandParts_69 ?_
    refine j_iload_n rfl d_X1_expandParts_72 rfl ?_
    refine j_iconst ⟨by decide, by decide⟩ d_X1_expandParts_73 ?_
    refine j_iadd d_X1_expandParts_74 ?_
    refine j_iald tg_280 al_280 d_X1_expandParts_75 ?_
    refine j_nmI (fun y9 hy9 => ?_)
    refine j_istore_n (lv' := [some (.inr (.inr 278)), none, some (.inl x2), some (.inl y9), none]) rfl d_X1_expandParts_76 (Nat.le_of_ble_eq_true rfl) rfl ?_
    refine j_iload_n rfl d_X1_expandParts_77 rfl ?_
    refine j_iconst ⟨by decide, by decide⟩ d_X1_expandParts_78 ?_
    refine j_icmp_ge (tgt := 85) d_X1_expandParts_79 (by decide) (fun h10 => ?_) (fun h10 => ?_)
    · refine j_iconst ⟨by decide, by decide⟩ d_X1_expandParts_85 ?_
      refine j_istore (lv' := [some (.inr (.inr 278)), none, some (.inl x2), some (.inl y9), some (.inl 0)]) d_X1_expandParts_86 (Nat.le_of_ble_eq_true rfl) rfl ?_
      exact j_wk [true, false, true, true, true] rfl rfl (T_X1_expandParts_88 G rec_60 x2 y9 0 M0 hrec_60)
    · refine j_goto (tgt := 141) d_X1_expandParts_82 (by decide) ?_
      exact j_wk [true, false, true, false, false] rfl rfl (T_X1_expandParts_141 G rec_60 x2 M0 hrec_60)
def f_X1_expandParts_60 (x2 : Int) (M0 : tp_M) : Option (tp_M) := tp_lp (σ := Int × tp_M) (fun rec_ u => f_X1_expandParts_60B (fun x2' M0' => rec_ (x2', M0')) u.1 u.2) tp_N (x2, M0)
set_option maxHeartbeats 4000000 in
set_option maxRecDepth 100000 in
theorem T_X1_expandParts_60 (G : tp_G) (x2 : Int) (M0 : tp_M) : tp_J i_X1_expandParts (tp_rm 2) G 0 0 o_X1_expandParts tp_NC (tp_st M0) 0 0 [some (.inr (.inr 278)), none, some (.inl x2), none, none] 60 [] (f_X1_expandParts_60 x2 M0) := by
  unfold f_X1_expandParts_60
  exact j_lp (σ := Int × tp_M) (n' := fun _ => tp_NC) (g' := fun u => tp_st u.2) (k' := fun _ => 0) (q' := fun _ => 0) (lv' := fun u => [some (.inr (.inr 278)), none, some (.inl u.1), none, none]) (fun rec_ hrec u => T_X1_expandParts_60B G (fun x2' M0' => rec_ (x2', M0')) (fun x2' M0' => hrec (x2', M0')) u.1 u.2) tp_N (x2, M0)
def f_X1_expandParts (a0 : Int) (M0 : tp_M) : Option (tp_M) :=
  if tp_tg a0 = 2 then
    (f_J7_fill_d0a16 304 0 M0).bind fun r2 =>
    if (0 : Int) ≤ 0 ∧ (0 : Int) ≤ 0 ∧ (0 : Int) ≤ 9 ∧ (0 + 9 : Int) ≤ 9 ∧ (0 + 9 : Int) ≤ 18 then
      tp_mp (tp_cp r2 303 0 304 0 9) fun M4 =>
      (f_X4_expand 304 0 18 (a0 + 1) (M4 a0 2) M4).bind fun r5 =>
      tp_lt ((tp_w ((min (r5 a0 0) 6) - 1))) fun y7 =>
      f_X1_expandParts_60 y7 r5 else none else none
set_option maxHeartbeats 4000000 in
set_option maxRecDepth 100000 in
theorem T_X1_expandParts (G : tp_G) (a0 : Int) (M0 : tp_M) : tp_J i_X1_expandParts (tp_rm 2) G 0 0 o_X1_expandParts tp_NC (tp_st M0) 0 0 [some (.inr (.inr 278)), some (.inr (.inr a0)), none, none, none] 0 [] (f_X1_expandParts a0 M0) := by
  unfold f_X1_expandParts
  refine tp_chk (fun ht1 => ?_)
  refine j_aload_n rfl d_X1_expandParts_0 rfl ?_
  refine j_getr fl_Grower_28 tg_278 rv_278_5 d_X1_expandParts_1 ?_
  refine j_lconst (x := 0) ⟨by decide, by decide⟩ (by decide +kernel) d_X1_expandParts_4 ?_
  refine j_bind (fun r2 h3 => ?_)
  refine j_callS (y := y_J7_fill_d0a16) (I' := i_J7_fill_d0a16) (avs := [.inr (.inr 304), .inr (.inl 0)]) (st := []) (c_J7_fill_d0a16 G 304 0 M0 r2 h3) cs_Grower_183 wd_678 wd_548 rfl rfl (Nat.le_of_ble_eq_true rfl) ⟨rfl, rfl⟩ ⟨by decide, by decide⟩ ⟨by decide, by decide⟩ d_X1_expandParts_5 ?_
  refine j_aload_n rfl d_X1_expandParts_8 rfl ?_
  refine j_getr fl_Grower_24 tg_278 rv_278_4 d_X1_expandParts_9 ?_
  refine j_iconst ⟨by decide, by decide⟩ d_X1_expandParts_12 ?_
  refine j_aload_n rfl d_X1_expandParts_13 rfl ?_
  refine j_getr fl_Grower_28 tg_278 rv_278_5 d_X1_expandParts_14 ?_
  refine j_iconst ⟨by decide, by decide⟩ d_X1_expandParts_17 ?_
  refine j_bipush ⟨by decide, by decide⟩ (by decide +kernel) d_X1_expandParts_18 ?_
  refine j_acpl tg_303 al_303 tg_304 al_304 wd_706 wd_594 wd_593 wd_15 ⟨(by decide : 1 ≤ ((tp_rm 2) : Room).frames), (by decide : 60 ≤ ((tp_rm 2) : Room).locals)⟩ (Nat.le_of_ble_eq_true rfl) d_X1_expandParts_20 (fun M4 hM4 => ?_)
  refine j_aload_n rfl d_X1_expandParts_23 rfl ?_
  refine j_getr fl_Grower_53 tg_278 rv_278_0 d_X1_expandParts_24 ?_
  refine j_aload_n rfl d_X1_expandParts_27 rfl ?_
  refine j_getr fl_Grower_28 tg_278 rv_278_5 d_X1_expandParts_28 ?_
  refine j_iconst ⟨by decide, by decide⟩ d_X1_expandParts_31 ?_
  refine j_aload_n rfl d_X1_expandParts_32 rfl ?_
  refine j_getr fl_Grower_28 tg_278 rv_278_5 d_X1_expandParts_33 ?_
  refine j_alen tg_304 (by decide) al_304 ⟨by decide, by decide⟩ (ty := .long) (by decide) d_X1_expandParts_36 ?_
  refine j_aload_n rfl d_X1_expandParts_37 rfl ?_
  refine j_getr fl_Grower_174 ht1 (fam_2_8 _ ht1).1 d_X1_expandParts_38 ?_
  refine j_aload_n rfl d_X1_expandParts_41 rfl ?_
  refine j_geti fl_Grower_237 ht1 d_X1_expandParts_42 ?_
  refine j_bind (fun r5 h6 => ?_)
  refine j_callV (y := y_X4_expand) (I' := i_X4_expand) (avs := [.inr (.inr 304), .inl 0, .inl 18, .inr (.inr (a0 + 1)), .inl (M4 a0 2)]) (c := 1) (st := []) (c_X4_expand G 304 0 18 (a0 + 1) (M4 a0 2) M4 r5 h6) cs_Grower_238 wd_707 wd_566 wd_567 tg_1 rfl rfl rfl (Nat.le_of_ble_eq_true rfl) ⟨rfl, rfl⟩ ⟨by decide, by decide⟩ ⟨by decide, by decide⟩ d_X1_expandParts_45 ?_
  refine j_aload_n rfl d_X1_expandParts_48 rfl ?_
  refine j_geti fl_Grower_177 ht1 d_X1_expandParts_49 ?_
  refine j_bipush ⟨by decide, by decide⟩ (by decide +kernel) d_X1_expandParts_52 ?_
  refine j_mmin wd_708 wd_482 wd_13 wd_483 ⟨(by decide : 1 ≤ ((tp_rm 2) : Room).frames), (by decide : 40 ≤ ((tp_rm 2) : Room).locals)⟩ ⟨by decide, by decide⟩ (Nat.le_of_ble_eq_true rfl) d_X1_expandParts_54 ?_
  refine j_iconst ⟨by decide, by decide⟩ d_X1_expandParts_57 ?_
  refine j_isub d_X1_expandParts_58 ?_
  refine j_nmI (fun y7 hy7 => ?_)
  refine j_istore_n (lv' := [some (.inr (.inr 278)), some (.inr (.inr a0)), some (.inl y7), none, none]) rfl d_X1_expandParts_59 (Nat.le_of_ble_eq_true rfl) rfl ?_
  exact j_wk [true, false, true, false, false] rfl rfl (T_X1_expandParts_60 G y7 r5)
set_option maxHeartbeats 4000000 in
set_option maxRecDepth 100000 in
theorem c_X1_expandParts (G : tp_G) (a0 : Int) (M0 : tp_M) (r : tp_M) (h : f_X1_expandParts a0 M0 = some r) (l : Launch) : Met l y_X1_expandParts (tp_ws y_X1_expandParts i_X1_expandParts) (tp_rm 2) (tp_Pc G [.inr (.inr 278), .inr (.inr a0)] tp_NC (tp_st M0)) (tp_Q G (o_X1_expandParts r)) 0 0 (tp_A G) :=
  tp_met (I := i_X1_expandParts) (y := y_X1_expandParts) (by decide +kernel) (Eq.refl "TypesAtPrime$Grower") (Eq.refl "expandParts") (lv := [some (.inr (.inr 278)), some (.inr (.inr a0)), none, none, none]) rfl (Nat.le_of_ble_eq_true rfl) (T_X1_expandParts G a0 M0) h l
theorem wd_342 : (.fieldLink "TypesAtPrime$Path" 9 "TypesAtPrime$Path" "degree" "[I" : Cond) ∈ lw_tbl := List.mem_append_right _ (List.mem_of_getElem? (i := 342) (by decide +kernel))
theorem fl_Path_9 : tp_F "TypesAtPrime$Path" 9 5 0 2 := ⟨_, _, _, rfl, by decide, rfl, wd_342, rfl, by decide⟩
theorem cs_Path_59 : tp_CS "TypesAtPrime$Path" 59 y_X10_quotient i_X10_quotient 2 := ⟨wd_623, wd_1, by decide, by decide, by decide +kernel⟩
theorem wd_344 : (.fieldLink "TypesAtPrime$Path" 15 "TypesAtPrime$Path" "ramification" "[I" : Cond) ∈ lw_tbl := List.mem_append_right _ (List.mem_of_getElem? (i := 344) (by decide +kernel))
theorem fl_Path_15 : tp_F "TypesAtPrime$Path" 15 5 1 2 := ⟨_, _, _, rfl, by decide, rfl, wd_344, rfl, by decide⟩
theorem cs_Path_63 : tp_CS "TypesAtPrime$Path" 63 y_X10_remainder i_X10_remainder 2 := ⟨wd_620, wd_1, by decide, by decide, by decide +kernel⟩
def y_X5_exponent : MethodName := ⟨"TypesAtPrime$Path", "exponent", "(II)I"⟩
abbrev i_X5_exponent : tp_I := (prog_7_method_5_code, "TypesAtPrime$Path", (some .int), 3, "exponent")
abbrev o_X5_exponent (M : tp_M) : Int → tp_O := fun r => (some (.inl r), tp_NC, tp_st M)
theorem d_X5_exponent_0 : decode prog_7_method_5_code 0 = .ok (.iload_n 2, 1) := by decide +kernel
theorem d_X5_exponent_1 : decode prog_7_method_5_code 1 = .ok (.iconst 1, 1) := by decide +kernel
theorem d_X5_exponent_2 : decode prog_7_method_5_code 2 = .ok (.if_icmp .lt 9, 3) := by decide +kernel
theorem d_X5_exponent_5 : decode prog_7_method_5_code 5 = .ok (.iload_n 2, 1) := by decide +kernel
theorem d_X5_exponent_6 : decode prog_7_method_5_code 6 = .ok (.bipush 6, 2) := by decide +kernel
theorem d_X5_exponent_8 : decode prog_7_method_5_code 8 = .ok (.if_icmp .le 5, 3) := by decide +kernel
theorem d_X5_exponent_11 : decode prog_7_method_5_code 11 = .ok (.iconst 0, 1) := by decide +kernel
theorem d_X5_exponent_12 : decode prog_7_method_5_code 12 = .ok (.ireturn, 1) := by decide +kernel
theorem d_X5_exponent_13 : decode prog_7_method_5_code 13 = .ok (.iload_n 1, 1) := by decide +kernel
theorem d_X5_exponent_14 : decode prog_7_method_5_code 14 = .ok (.aload_n 0, 1) := by decide +kernel
theorem d_X5_exponent_15 : decode prog_7_method_5_code 15 = .ok (.getfield 9, 3) := by decide +kernel
theorem d_X5_exponent_18 : decode prog_7_method_5_code 18 = .ok (.iload_n 2, 1) := by decide +kernel
theorem d_X5_exponent_19 : decode prog_7_method_5_code 19 = .ok (.iaload, 1) := by decide +kernel
theorem d_X5_exponent_20 : decode prog_7_method_5_code 20 = .ok (.invokestatic 59, 3) := by decide +kernel
theorem d_X5_exponent_23 : decode prog_7_method_5_code 23 = .ok (.aload_n 0, 1) := by decide +kernel
theorem d_X5_exponent_24 : decode prog_7_method_5_code 24 = .ok (.getfield 15, 3) := by decide +kernel
theorem d_X5_exponent_27 : decode prog_7_method_5_code 27 = .ok (.iload_n 2, 1) := by decide +kernel
theorem d_X5_exponent_28 : decode prog_7_method_5_code 28 = .ok (.iaload, 1) := by decide +kernel
theorem d_X5_exponent_29 : decode prog_7_method_5_code 29 = .ok (.invokestatic 63, 3) := by decide +kernel
theorem d_X5_exponent_32 : decode prog_7_method_5_code 32 = .ok (.ireturn, 1) := by decide +kernel
def f_X5_exponent (a0 : Int) (a1 : Int) (M0 : tp_M) : Option (Int) :=
  if a1 < 1 then
    some 0
  else
    if a1 ≤ 6 then
      if 0 ≤ a1 ∧ a1 < 8 then
        (f_X10_quotient a0 (M0 280 a1) M0).bind fun r3 =>
        if 0 ≤ a1 ∧ a1 < 8 then
          (f_X10_remainder r3 (M0 281 a1) M0).bind fun r5 =>
          some r5 else none else none
    else
      some 0
set_option maxHeartbeats 4000000 in
set_option maxRecDepth 100000 in
theorem T_X5_exponent (G : tp_G) (a0 : Int) (a1 : Int) (M0 : tp_M) : tp_J i_X5_exponent (tp_rm 1) G 0 0 (o_X5_exponent M0) tp_NC (tp_st M0) 0 0 [some (.inr (.inr 279)), some (.inl a0), some (.inl a1)] 0 [] (f_X5_exponent a0 a1 M0) := by
  unfold f_X5_exponent
  refine j_iload_n rfl d_X5_exponent_0 rfl ?_
  refine j_iconst ⟨by decide, by decide⟩ d_X5_exponent_1 ?_
  refine j_icmp_lt (tgt := 11) d_X5_exponent_2 (by decide) (fun h1 => ?_) (fun h1 => ?_)
  · refine j_iconst ⟨by decide, by decide⟩ d_X5_exponent_11 ?_
    exact j_iret d_X5_exponent_12 rfl rfl ⟨rfl, rfl⟩
  · refine j_iload_n rfl d_X5_exponent_5 rfl ?_
    refine j_bipush ⟨by decide, by decide⟩ (by decide +kernel) d_X5_exponent_6 ?_
    refine j_icmp_le (tgt := 13) d_X5_exponent_8 (by decide) (fun h2 => ?_) (fun h2 => ?_)
    · refine j_iload_n rfl d_X5_exponent_13 rfl ?_
      refine j_aload_n rfl d_X5_exponent_14 rfl ?_
      refine j_getr fl_Path_9 tg_279 rv_279_0 d_X5_exponent_15 ?_
      refine j_iload_n rfl d_X5_exponent_18 rfl ?_
      refine j_iald tg_280 al_280 d_X5_exponent_19 ?_
      refine j_bind (fun r3 h4 => ?_)
      refine j_callSN (y := y_X10_quotient) (I' := i_X10_quotient) (avs := [.inl a0, .inl (M0 280 a1)]) (st := []) (c_X10_quotient G a0 (M0 280 a1) M0 r3 h4) cs_Path_59 (by decide +kernel : (.methodLinkNest "TypesAtPrime$Path" 59 ⟨"TypesAtPrime", "quotient", "(II)I"⟩ "TypesAtPrime" : Cond) ∈ tp_nest) wd_622 rfl rfl (Nat.le_of_ble_eq_true rfl) ⟨rfl, rfl⟩ ⟨by decide, by decide⟩ ⟨by decide, by decide⟩ d_X5_exponent_20 ?_
      refine j_aload_n rfl d_X5_exponent_23 rfl ?_
      refine j_getr fl_Path_15 tg_279 rv_279_1 d_X5_exponent_24 ?_
      refine j_iload_n rfl d_X5_exponent_27 rfl ?_
      refine j_iald tg_281 al_281 d_X5_exponent_28 ?_
      refine j_bind (fun r5 h6 => ?_)
      refine j_callSN (y := y_X10_remainder) (I' := i_X10_remainder) (avs := [.inl r3, .inl (M0 281 a1)]) (st := []) (c_X10_remainder G r3 (M0 281 a1) M0 r5 h6) cs_Path_63 (by decide +kernel : (.methodLinkNest "TypesAtPrime$Path" 63 ⟨"TypesAtPrime", "remainder", "(II)I"⟩ "TypesAtPrime" : Cond) ∈ tp_nest) wd_619 rfl rfl (Nat.le_of_ble_eq_true rfl) ⟨rfl, rfl⟩ ⟨by decide, by decide⟩ ⟨by decide, by decide⟩ d_X5_exponent_29 ?_
      exact j_iret d_X5_exponent_32 rfl rfl ⟨rfl, rfl⟩
    · refine j_iconst ⟨by decide, by decide⟩ d_X5_exponent_11 ?_
      exact j_iret d_X5_exponent_12 rfl rfl ⟨rfl, rfl⟩
set_option maxHeartbeats 4000000 in
set_option maxRecDepth 100000 in
theorem c_X5_exponent (G : tp_G) (a0 : Int) (a1 : Int) (M0 : tp_M) (r : Int) (h : f_X5_exponent a0 a1 M0 = some r) (l : Launch) : Met l y_X5_exponent (tp_ws y_X5_exponent i_X5_exponent) (tp_rm 1) (tp_Pc G [.inr (.inr 279), .inl a0, .inl a1] tp_NC (tp_st M0)) (tp_Q G ((o_X5_exponent M0) r)) 0 0 (tp_A G) :=
  tp_met (I := i_X5_exponent) (y := y_X5_exponent) (by decide +kernel) (Eq.refl "TypesAtPrime$Path") (Eq.refl "exponent") (lv := [some (.inr (.inr 279)), some (.inl a0), some (.inl a1)]) rfl (Nat.le_of_ble_eq_true rfl) (T_X5_exponent G a0 a1 M0) h l
theorem wd_717 : (.code ⟨"TypesAtPrime$Path", "exponent", "(II)I"⟩ prog_7_method_5_code 3 (some .int) : Cond) ∈ lw_tbl := List.mem_append_right _ (List.mem_of_getElem? (i := 717) (by decide +kernel))
theorem wd_11 : (.initialized "TypesAtPrime$Path" : Cond) ∈ lw_tbl := List.mem_append_right _ (List.mem_of_getElem? (i := 11) (by decide +kernel))
theorem cs_Path_66 : tp_CS "TypesAtPrime$Path" 66 y_X5_exponent i_X5_exponent 2 := ⟨wd_717, wd_11, by decide, by decide, by decide +kernel⟩
theorem wd_714 : (.methodLink "TypesAtPrime$Path" 66 ⟨"TypesAtPrime$Path", "exponent", "(II)I"⟩ : Cond) ∈ lw_tbl := List.mem_append_right _ (List.mem_of_getElem? (i := 714) (by decide +kernel))
theorem wd_715 : (.instanceMethod ⟨"TypesAtPrime$Path", "exponent", "(II)I"⟩ : Cond) ∈ lw_tbl := List.mem_append_right _ (List.mem_of_getElem? (i := 715) (by decide +kernel))
theorem wd_716 : (.selects "TypesAtPrime$Path" ⟨"TypesAtPrime$Path", "exponent", "(II)I"⟩ ⟨"TypesAtPrime$Path", "exponent", "(II)I"⟩ : Cond) ∈ lw_tbl := List.mem_append_right _ (List.mem_of_getElem? (i := 716) (by decide +kernel))
theorem wd_346 : (.fieldLink "TypesAtPrime$Path" 18 "TypesAtPrime$Path" "slopeValue" "[I" : Cond) ∈ lw_tbl := List.mem_append_right _ (List.mem_of_getElem? (i := 346) (by decide +kernel))
theorem fl_Path_18 : tp_F "TypesAtPrime$Path" 18 5 2 2 := ⟨_, _, _, rfl, by decide, rfl, wd_346, rfl, by decide⟩
theorem tg_282 : tp_tg 282 = 21 := by decide +kernel
theorem al_282 : tp_al 282 = 8 := by decide +kernel
theorem rv_279_2 : tp_rv 279 2 = 282 := by decide +kernel
def y_X5_valueOfPlace : MethodName := ⟨"TypesAtPrime$Path", "valueOfPlace", "(II)I"⟩
abbrev i_X5_valueOfPlace : tp_I := (prog_7_method_6_code, "TypesAtPrime$Path", (some .int), 6, "valueOfPlace")
abbrev o_X5_valueOfPlace (M : tp_M) : Int → tp_O := fun r => (some (.inl r), tp_NC, tp_st M)
theorem d_X5_valueOfPlace_0 : decode prog_7_method_6_code 0 = .ok (.iload_n 2, 1) := by decide +kernel
theorem d_X5_valueOfPlace_1 : decode prog_7_method_6_code 1 = .ok (.iconst 1, 1) := by decide +kernel
theorem d_X5_valueOfPlace_2 : decode prog_7_method_6_code 2 = .ok (.if_icmp .lt 9, 3) := by decide +kernel
theorem d_X5_valueOfPlace_5 : decode prog_7_method_6_code 5 = .ok (.iload_n 2, 1) := by decide +kernel
theorem d_X5_valueOfPlace_6 : decode prog_7_method_6_code 6 = .ok (.bipush 6, 2) := by decide +kernel
theorem d_X5_valueOfPlace_8 : decode prog_7_method_6_code 8 = .ok (.if_icmp .le 5, 3) := by decide +kernel
theorem d_X5_valueOfPlace_11 : decode prog_7_method_6_code 11 = .ok (.iconst 0, 1) := by decide +kernel
theorem d_X5_valueOfPlace_12 : decode prog_7_method_6_code 12 = .ok (.ireturn, 1) := by decide +kernel
theorem d_X5_valueOfPlace_13 : decode prog_7_method_6_code 13 = .ok (.iconst 0, 1) := by decide +kernel
theorem d_X5_valueOfPlace_14 : decode prog_7_method_6_code 14 = .ok (.istore_n 3, 1) := by decide +kernel
theorem d_X5_valueOfPlace_15 : decode prog_7_method_6_code 15 = .ok (.iconst 1, 1) := by decide +kernel
theorem d_X5_valueOfPlace_16 : decode prog_7_method_6_code 16 = .ok (.istore 4, 2) := by decide +kernel
theorem d_X5_valueOfPlace_18 : decode prog_7_method_6_code 18 = .ok (.iload 4, 2) := by decide +kernel
theorem d_X5_valueOfPlace_20 : decode prog_7_method_6_code 20 = .ok (.iload_n 2, 1) := by decide +kernel
theorem d_X5_valueOfPlace_21 : decode prog_7_method_6_code 21 = .ok (.if_icmp .ge 56, 3) := by decide +kernel
theorem d_X5_valueOfPlace_24 : decode prog_7_method_6_code 24 = .ok (.aload_n 0, 1) := by decide +kernel
theorem d_X5_valueOfPlace_25 : decode prog_7_method_6_code 25 = .ok (.getfield 9, 3) := by decide +kernel
theorem d_X5_valueOfPlace_28 : decode prog_7_method_6_code 28 = .ok (.iload_n 2, 1) := by decide +kernel
theorem d_X5_valueOfPlace_29 : decode prog_7_method_6_code 29 = .ok (.iaload, 1) := by decide +kernel
theorem d_X5_valueOfPlace_30 : decode prog_7_method_6_code 30 = .ok (.aload_n 0, 1) := by decide +kernel
theorem d_X5_valueOfPlace_31 : decode prog_7_method_6_code 31 = .ok (.getfield 9, 3) := by decide +kernel
theorem d_X5_valueOfPlace_34 : decode prog_7_method_6_code 34 = .ok (.iload 4, 2) := by decide +kernel
theorem d_X5_valueOfPlace_36 : decode prog_7_method_6_code 36 = .ok (.iaload, 1) := by decide +kernel
theorem d_X5_valueOfPlace_37 : decode prog_7_method_6_code 37 = .ok (.aload_n 0, 1) := by decide +kernel
theorem d_X5_valueOfPlace_38 : decode prog_7_method_6_code 38 = .ok (.getfield 15, 3) := by decide +kernel
theorem d_X5_valueOfPlace_41 : decode prog_7_method_6_code 41 = .ok (.iload 4, 2) := by decide +kernel
theorem d_X5_valueOfPlace_43 : decode prog_7_method_6_code 43 = .ok (.iaload, 1) := by decide +kernel
theorem d_X5_valueOfPlace_44 : decode prog_7_method_6_code 44 = .ok (.imul, 1) := by decide +kernel
theorem d_X5_valueOfPlace_45 : decode prog_7_method_6_code 45 = .ok (.invokestatic 59, 3) := by decide +kernel
theorem d_X5_valueOfPlace_48 : decode prog_7_method_6_code 48 = .ok (.istore 5, 2) := by decide +kernel
theorem d_X5_valueOfPlace_50 : decode prog_7_method_6_code 50 = .ok (.iload_n 3, 1) := by decide +kernel
theorem d_X5_valueOfPlace_51 : decode prog_7_method_6_code 51 = .ok (.aload_n 0, 1) := by decide +kernel
theorem d_X5_valueOfPlace_52 : decode prog_7_method_6_code 52 = .ok (.iload_n 1, 1) := by decide +kernel
theorem d_X5_valueOfPlace_53 : decode prog_7_method_6_code 53 = .ok (.iload 4, 2) := by decide +kernel
theorem d_X5_valueOfPlace_55 : decode prog_7_method_6_code 55 = .ok (.invokevirtual 66, 3) := by decide +kernel
theorem d_X5_valueOfPlace_58 : decode prog_7_method_6_code 58 = .ok (.aload_n 0, 1) := by decide +kernel
theorem d_X5_valueOfPlace_59 : decode prog_7_method_6_code 59 = .ok (.getfield 18, 3) := by decide +kernel
theorem d_X5_valueOfPlace_62 : decode prog_7_method_6_code 62 = .ok (.iload 4, 2) := by decide +kernel
theorem d_X5_valueOfPlace_64 : decode prog_7_method_6_code 64 = .ok (.iaload, 1) := by decide +kernel
theorem d_X5_valueOfPlace_65 : decode prog_7_method_6_code 65 = .ok (.imul, 1) := by decide +kernel
theorem d_X5_valueOfPlace_66 : decode prog_7_method_6_code 66 = .ok (.iload 5, 2) := by decide +kernel
theorem d_X5_valueOfPlace_68 : decode prog_7_method_6_code 68 = .ok (.imul, 1) := by decide +kernel
theorem d_X5_valueOfPlace_69 : decode prog_7_method_6_code 69 = .ok (.iadd, 1) := by decide +kernel
theorem d_X5_valueOfPlace_70 : decode prog_7_method_6_code 70 = .ok (.istore_n 3, 1) := by decide +kernel
theorem d_X5_valueOfPlace_71 : decode prog_7_method_6_code 71 = .ok (.iinc 4 1, 3) := by decide +kernel
theorem d_X5_valueOfPlace_74 : decode prog_7_method_6_code 74 = .ok (.goto (-56), 3) := by decide +kernel
theorem d_X5_valueOfPlace_77 : decode prog_7_method_6_code 77 = .ok (.iload_n 3, 1) := by decide +kernel
theorem d_X5_valueOfPlace_78 : decode prog_7_method_6_code 78 = .ok (.ireturn, 1) := by decide +kernel
def f_X5_valueOfPlace_18B (x1 : Int) (x2 : Int) (M0 : tp_M) (rec_18 : Int → Int → Option (Int)) (x3 : Int) (x4 : Int) : Option (Int) :=
  if x2 ≤ x4 then
    some x3
  else
    if 0 ≤ x2 ∧ x2 < 8 then
      if 0 ≤ x4 ∧ x4 < 8 then
        if 0 ≤ x4 ∧ x4 < 8 then
          (f_X10_quotient (M0 280 x2) (tp_w ((M0 280 x4) * (M0 281 x4))) M0).bind fun r4 =>
          (f_X5_exponent x1 x4 M0).bind fun r6 =>
          if 0 ≤ x4 ∧ x4 < 8 then
            tp_lt ((tp_w (x3 + (tp_w ((tp_w (r6 * (M0 282 x4))) * r4))))) fun y8 =>
            tp_lt (tp_w (x4 + 1)) fun y9 =>
            rec_18 y8 y9 else none else none else none else none
set_option maxHeartbeats 4000000 in
set_option maxRecDepth 100000 in
theorem T_X5_valueOfPlace_18B (G : tp_G) (x1 : Int) (x2 : Int) (M0 : tp_M) (rec_18 : Int → Int → Option (Int)) (hrec_18 : ∀ (x3' x4' : Int), tp_J i_X5_valueOfPlace (tp_rm 2) G 0 0 (o_X5_valueOfPlace M0) tp_NC (tp_st M0) 0 0 [some (.inr (.inr 279)), some (.inl x1), some (.inl x2), some (.inl (x3')), some (.inl (x4')), none] 18 [] (rec_18 x3' x4')) (x3 : Int) (x4 : Int) : tp_J i_X5_valueOfPlace (tp_rm 2) G 0 0 (o_X5_valueOfPlace M0) tp_NC (tp_st M0) 0 0 [some (.inr (.inr 279)), some (.inl x1), some (.inl x2), some (.inl x3), some (.inl x4), none] 18 [] (f_X5_valueOfPlace_18B x1 x2 M0 rec_18 x3 x4) := by
  unfold f_X5_valueOfPlace_18B
  refine j_iload d_X5_valueOfPlace_18 rfl ?_
  refine j_iload_n rfl d_X5_valueOfPlace_20 rfl ?_
  refine j_icmp_ge (tgt := 77) d_X5_valueOfPlace_21 (by decide) (fun h3 => ?_) (fun h3 => ?_)
  · refine j_iload_n rfl d_X5_valueOfPlace_77 rfl ?_
    exact j_iret d_X5_valueOfPlace_78 rfl rfl ⟨rfl, rfl⟩
  · refine j_aload_n rfl d_X5_valueOfPlace_24 rfl ?_
    refine j_getr fl_Path_9 tg_279 rv_279_0 d_X5_valueOfPlace_25 ?_
    refine j_iload_n rfl d_X5_valueOfPlace_28 rfl ?_
    refine j_iald tg_280 al_280 d_X5_valueOfPlace_29 ?_
    refine j_aload_n rfl d_X5_valueOfPlace_30 rfl ?_
    refine j_getr fl_Path_9 tg_279 rv_279_0 d_X5_valueOfPlace_31 ?_
    refine j_iload d_X5_valueOfPlace_34 rfl ?_
    refine j_iald tg_280 al_280 d_X5_valueOfPlace_36 ?_
    refine j_aload_n rfl d_X5_valueOfPlace_37 rfl ?_
    refine j_getr fl_Path_15 tg_279 rv_279_1 d_X5_valueOfPlace_38 ?_
    refine j_iload d_X5_valueOfPlace_41 rfl ?_
    refine j_iald tg_281 al_281 d_X5_valueOfPlace_43 ?_
    refine j_imul d_X5_valueOfPlace_44 ?_
    refine j_bind (fun r4 h5 => ?_)
    refine j_callSN (y := y_X10_quotient) (I' := i_X10_quotient) (avs := [.inl (M0 280 x2), .inl (tp_w ((M0 280 x4) * (M0 281 x4)))]) (st := []) (c_X10_quotient G (M0 280 x2) (tp_w ((M0 280 x4) * (M0 281 x4))) M0 r4 h5) cs_Path_59 (by decide +kernel : (.methodLinkNest "TypesAtPrime$Path" 59 ⟨"TypesAtPrime", "quotient", "(II)I"⟩ "TypesAtPrime" : Cond) ∈ tp_nest) wd_622 rfl rfl (Nat.le_of_ble_eq_true rfl) ⟨rfl, rfl⟩ ⟨by decide, by decide⟩ ⟨by decide, by decide⟩ d_X5_valueOfPlace_45 ?_
    refine j_istore (lv' := [some (.inr (.inr 279)), some (.inl x1), some (.inl x2), some (.inl x3), some (.inl x4), some (.inl r4)]) d_X5_valueOfPlace_48 (Nat.le_of_ble_eq_true rfl) rfl ?_
    refine j_iload_n rfl d_X5_valueOfPlace_50 rfl ?_
    refine j_aload_n rfl d_X5_valueOfPlace_51 rfl ?_
    refine j_iload_n rfl d_X5_valueOfPlace_52 rfl ?_
    refine j_iload d_X5_valueOfPlace_53 rfl ?_
    refine j_bind (fun r6 h7 => ?_)
    refine j_callV (y := y_X5_exponent) (I' := i_X5_exponent) (avs := [.inl x1, .inl x4]) (c := 279) (st := [.inl x3]) (c_X5_exponent G x1 x4 M0 r6 h7) cs_Path_66 wd_714 wd_715 wd_716 tg_279 rfl rfl rfl (Nat.le_of_ble_eq_true rfl) ⟨rfl, rfl⟩ ⟨by decide, by decide⟩ ⟨by decide, by decide⟩ d_X5_valueOfPlace_55 ?_
    refine j_aload_n rfl d_X5_valueOfPlace_58 rfl ?_
    refine j_getr fl_Path_18 tg_279 rv_279_2 d_X5_valueOfPlace_59 ?_
    refine j_iload d_X5_valueOfPlace_62 rfl ?_
    refine j_iald tg_282 al_282 d_X5_valueOfPlace_64 ?_
    refine j_imul d_X5_valueOfPlace_65 ?_
    refine j_iload d_X5_valueOfPlace_66 rfl ?_
    refine j_imul d_X5_valueOfPlace_68 ?_
    refine j_iadd d_X5_valueOfPlace_69 ?_
    refine j_nmI (fun y8 hy8 => ?_)
    refine j_istore_n (lv' := [some (.inr (.inr 279)), some (.inl x1), some (.inl x2), some (.inl y8), some (.inl x4), some (.inl r4)]) rfl d_X5_valueOfPlace_70 (Nat.le_of_ble_eq_true rfl) rfl ?_
    refine j_iincN (lv' := fun y9 => [some (.inr (.inr 279)), some (.inl x1), some (.inl x2), some (.inl y8), some (.inl y9), some (.inl r4)]) d_X5_valueOfPlace_71 rfl (Nat.le_of_ble_eq_true rfl) (fun _ => rfl) (fun y9 hy9 => ?_)
    refine j_goto (tgt := 18) d_X5_valueOfPlace_74 (by decide) ?_
    exact j_wk [true, true, true, true, true, false] rfl rfl (hrec_18 y8 y9)
def f_X5_valueOfPlace_18 (x1 : Int) (x2 : Int) (x3 : Int) (x4 : Int) (M0 : tp_M) : Option (Int) := tp_lp (σ := Int × Int) (fun rec_ u => f_X5_valueOfPlace_18B x1 x2 M0 (fun x3' x4' => rec_ (x3', x4')) u.1 u.2) tp_N (x3, x4)
set_option maxHeartbeats 4000000 in
set_option maxRecDepth 100000 in
theorem T_X5_valueOfPlace_18 (G : tp_G) (x1 : Int) (x2 : Int) (x3 : Int) (x4 : Int) (M0 : tp_M) : tp_J i_X5_valueOfPlace (tp_rm 2) G 0 0 (o_X5_valueOfPlace M0) tp_NC (tp_st M0) 0 0 [some (.inr (.inr 279)), some (.inl x1), some (.inl x2), some (.inl x3), some (.inl x4), none] 18 [] (f_X5_valueOfPlace_18 x1 x2 x3 x4 M0) := by
  unfold f_X5_valueOfPlace_18
  exact j_lp (σ := Int × Int) (n' := fun _ => tp_NC) (g' := fun u => tp_st M0) (k' := fun _ => 0) (q' := fun _ => 0) (lv' := fun u => [some (.inr (.inr 279)), some (.inl x1), some (.inl x2), some (.inl u.1), some (.inl u.2), none]) (fun rec_ hrec u => T_X5_valueOfPlace_18B G x1 x2 M0 (fun x3' x4' => rec_ (x3', x4')) (fun x3' x4' => hrec (x3', x4')) u.1 u.2) tp_N (x3, x4)
def f_X5_valueOfPlace (a0 : Int) (a1 : Int) (M0 : tp_M) : Option (Int) :=
  if a1 < 1 then
    some 0
  else
    if a1 ≤ 6 then
      f_X5_valueOfPlace_18 a0 a1 0 1 M0
    else
      some 0
set_option maxHeartbeats 4000000 in
set_option maxRecDepth 100000 in
theorem T_X5_valueOfPlace (G : tp_G) (a0 : Int) (a1 : Int) (M0 : tp_M) : tp_J i_X5_valueOfPlace (tp_rm 2) G 0 0 (o_X5_valueOfPlace M0) tp_NC (tp_st M0) 0 0 [some (.inr (.inr 279)), some (.inl a0), some (.inl a1), none, none, none] 0 [] (f_X5_valueOfPlace a0 a1 M0) := by
  unfold f_X5_valueOfPlace
  refine j_iload_n rfl d_X5_valueOfPlace_0 rfl ?_
  refine j_iconst ⟨by decide, by decide⟩ d_X5_valueOfPlace_1 ?_
  refine j_icmp_lt (tgt := 11) d_X5_valueOfPlace_2 (by decide) (fun h1 => ?_) (fun h1 => ?_)
  · refine j_iconst ⟨by decide, by decide⟩ d_X5_valueOfPlace_11 ?_
    exact j_iret d_X5_valueOfPlace_12 rfl rfl ⟨rfl, rfl⟩
  · refine j_iload_n rfl d_X5_valueOfPlace_5 rfl ?_
    refine j_bipush ⟨by decide, by decide⟩ (by decide +kernel) d_X5_valueOfPlace_6 ?_
    refine j_icmp_le (tgt := 13) d_X5_valueOfPlace_8 (by decide) (fun h2 => ?_) (fun h2 => ?_)
    · refine j_iconst ⟨by decide, by decide⟩ d_X5_valueOfPlace_13 ?_
      refine j_istore_n (lv' := [some (.inr (.inr 279)), some (.inl a0), some (.inl a1), some (.inl 0), none, none]) rfl d_X5_valueOfPlace_14 (Nat.le_of_ble_eq_true rfl) rfl ?_
      refine j_iconst ⟨by decide, by decide⟩ d_X5_valueOfPlace_15 ?_
      refine j_istore (lv' := [some (.inr (.inr 279)), some (.inl a0), some (.inl a1), some (.inl 0), some (.inl 1), none]) d_X5_valueOfPlace_16 (Nat.le_of_ble_eq_true rfl) rfl ?_
      exact j_wk [true, true, true, true, true, false] rfl rfl (T_X5_valueOfPlace_18 G a0 a1 0 1 M0)
    · refine j_iconst ⟨by decide, by decide⟩ d_X5_valueOfPlace_11 ?_
      exact j_iret d_X5_valueOfPlace_12 rfl rfl ⟨rfl, rfl⟩
set_option maxHeartbeats 4000000 in
set_option maxRecDepth 100000 in
theorem c_X5_valueOfPlace (G : tp_G) (a0 : Int) (a1 : Int) (M0 : tp_M) (r : Int) (h : f_X5_valueOfPlace a0 a1 M0 = some r) (l : Launch) : Met l y_X5_valueOfPlace (tp_ws y_X5_valueOfPlace i_X5_valueOfPlace) (tp_rm 2) (tp_Pc G [.inr (.inr 279), .inl a0, .inl a1] tp_NC (tp_st M0)) (tp_Q G ((o_X5_valueOfPlace M0) r)) 0 0 (tp_A G) :=
  tp_met (I := i_X5_valueOfPlace) (y := y_X5_valueOfPlace) (by decide +kernel) (Eq.refl "TypesAtPrime$Path") (Eq.refl "valueOfPlace") (lv := [some (.inr (.inr 279)), some (.inl a0), some (.inl a1), none, none, none]) rfl (Nat.le_of_ble_eq_true rfl) (T_X5_valueOfPlace G a0 a1 M0) h l
def y_X5_lift : MethodName := ⟨"TypesAtPrime$Path", "lift", "(I)I"⟩
abbrev i_X5_lift : tp_I := (prog_7_method_4_code, "TypesAtPrime$Path", (some .int), 2, "lift")
abbrev o_X5_lift (M : tp_M) : Int → tp_O := fun r => (some (.inl r), tp_NC, tp_st M)
theorem d_X5_lift_0 : decode prog_7_method_4_code 0 = .ok (.iload_n 1, 1) := by decide +kernel
theorem d_X5_lift_1 : decode prog_7_method_4_code 1 = .ok (.iconst 2, 1) := by decide +kernel
theorem d_X5_lift_2 : decode prog_7_method_4_code 2 = .ok (.if_icmp .lt 9, 3) := by decide +kernel
theorem d_X5_lift_5 : decode prog_7_method_4_code 5 = .ok (.iload_n 1, 1) := by decide +kernel
theorem d_X5_lift_6 : decode prog_7_method_4_code 6 = .ok (.bipush 6, 2) := by decide +kernel
theorem d_X5_lift_8 : decode prog_7_method_4_code 8 = .ok (.if_icmp .le 5, 3) := by decide +kernel
theorem d_X5_lift_11 : decode prog_7_method_4_code 11 = .ok (.iconst 0, 1) := by decide +kernel
theorem d_X5_lift_12 : decode prog_7_method_4_code 12 = .ok (.ireturn, 1) := by decide +kernel
theorem d_X5_lift_13 : decode prog_7_method_4_code 13 = .ok (.aload_n 0, 1) := by decide +kernel
theorem d_X5_lift_14 : decode prog_7_method_4_code 14 = .ok (.getfield 15, 3) := by decide +kernel
theorem d_X5_lift_17 : decode prog_7_method_4_code 17 = .ok (.iload_n 1, 1) := by decide +kernel
theorem d_X5_lift_18 : decode prog_7_method_4_code 18 = .ok (.iconst 1, 1) := by decide +kernel
theorem d_X5_lift_19 : decode prog_7_method_4_code 19 = .ok (.isub, 1) := by decide +kernel
theorem d_X5_lift_20 : decode prog_7_method_4_code 20 = .ok (.iaload, 1) := by decide +kernel
theorem d_X5_lift_21 : decode prog_7_method_4_code 21 = .ok (.aload_n 0, 1) := by decide +kernel
theorem d_X5_lift_22 : decode prog_7_method_4_code 22 = .ok (.getfield 18, 3) := by decide +kernel
theorem d_X5_lift_25 : decode prog_7_method_4_code 25 = .ok (.iload_n 1, 1) := by decide +kernel
theorem d_X5_lift_26 : decode prog_7_method_4_code 26 = .ok (.iconst 1, 1) := by decide +kernel
theorem d_X5_lift_27 : decode prog_7_method_4_code 27 = .ok (.isub, 1) := by decide +kernel
theorem d_X5_lift_28 : decode prog_7_method_4_code 28 = .ok (.iaload, 1) := by decide +kernel
theorem d_X5_lift_29 : decode prog_7_method_4_code 29 = .ok (.imul, 1) := by decide +kernel
theorem d_X5_lift_30 : decode prog_7_method_4_code 30 = .ok (.ireturn, 1) := by decide +kernel
def f_X5_lift (a0 : Int) (M0 : tp_M) : Option (Int) :=
  if a0 < 2 then
    some 0
  else
    if a0 ≤ 6 then
      if 0 ≤ (tp_w (a0 - 1)) ∧ (tp_w (a0 - 1)) < 8 then
        if 0 ≤ (tp_w (a0 - 1)) ∧ (tp_w (a0 - 1)) < 8 then
          some (tp_w ((M0 281 (tp_w (a0 - 1))) * (M0 282 (tp_w (a0 - 1))))) else none else none
    else
      some 0
set_option maxHeartbeats 4000000 in
set_option maxRecDepth 100000 in
theorem T_X5_lift (G : tp_G) (a0 : Int) (M0 : tp_M) : tp_J i_X5_lift (tp_rm 0) G 0 0 (o_X5_lift M0) tp_NC (tp_st M0) 0 0 [some (.inr (.inr 279)), some (.inl a0)] 0 [] (f_X5_lift a0 M0) := by
  unfold f_X5_lift
  refine j_iload_n rfl d_X5_lift_0 rfl ?_
  refine j_iconst ⟨by decide, by decide⟩ d_X5_lift_1 ?_
  refine j_icmp_lt (tgt := 11) d_X5_lift_2 (by decide) (fun h1 => ?_) (fun h1 => ?_)
  · refine j_iconst ⟨by decide, by decide⟩ d_X5_lift_11 ?_
    exact j_iret d_X5_lift_12 rfl rfl ⟨rfl, rfl⟩
  · refine j_iload_n rfl d_X5_lift_5 rfl ?_
    refine j_bipush ⟨by decide, by decide⟩ (by decide +kernel) d_X5_lift_6 ?_
    refine j_icmp_le (tgt := 13) d_X5_lift_8 (by decide) (fun h2 => ?_) (fun h2 => ?_)
    · refine j_aload_n rfl d_X5_lift_13 rfl ?_
      refine j_getr fl_Path_15 tg_279 rv_279_1 d_X5_lift_14 ?_
      refine j_iload_n rfl d_X5_lift_17 rfl ?_
      refine j_iconst ⟨by decide, by decide⟩ d_X5_lift_18 ?_
      refine j_isub d_X5_lift_19 ?_
      refine j_iald tg_281 al_281 d_X5_lift_20 ?_
      refine j_aload_n rfl d_X5_lift_21 rfl ?_
      refine j_getr fl_Path_18 tg_279 rv_279_2 d_X5_lift_22 ?_
      refine j_iload_n rfl d_X5_lift_25 rfl ?_
      refine j_iconst ⟨by decide, by decide⟩ d_X5_lift_26 ?_
      refine j_isub d_X5_lift_27 ?_
      refine j_iald tg_282 al_282 d_X5_lift_28 ?_
      refine j_imul d_X5_lift_29 ?_
      exact j_iret d_X5_lift_30 rfl rfl ⟨rfl, rfl⟩
    · refine j_iconst ⟨by decide, by decide⟩ d_X5_lift_11 ?_
      exact j_iret d_X5_lift_12 rfl rfl ⟨rfl, rfl⟩
set_option maxHeartbeats 4000000 in
set_option maxRecDepth 100000 in
theorem c_X5_lift (G : tp_G) (a0 : Int) (M0 : tp_M) (r : Int) (h : f_X5_lift a0 M0 = some r) (l : Launch) : Met l y_X5_lift (tp_ws y_X5_lift i_X5_lift) (tp_rm 0) (tp_Pc G [.inr (.inr 279), .inl a0] tp_NC (tp_st M0)) (tp_Q G ((o_X5_lift M0) r)) 0 0 (tp_A G) :=
  tp_met (I := i_X5_lift) (y := y_X5_lift) (by decide +kernel) (Eq.refl "TypesAtPrime$Path") (Eq.refl "lift") (lv := [some (.inr (.inr 279)), some (.inl a0)]) rfl (Nat.le_of_ble_eq_true rfl) (T_X5_lift G a0 M0) h l
def y_X10_isPower : MethodName := ⟨"TypesAtPrime", "isPower", "(I)Z"⟩
abbrev i_X10_isPower : tp_I := (prog_1_method_35_code, "TypesAtPrime", (some .boolean), 1, "isPower")
abbrev o_X10_isPower (M : tp_M) : Int → tp_O := fun r => (some (.inl r), tp_NC, tp_st M)
theorem d_X10_isPower_0 : decode prog_1_method_35_code 0 = .ok (.iload_n 0, 1) := by decide +kernel
theorem d_X10_isPower_1 : decode prog_1_method_35_code 1 = .ok (.ifCond .lt 13, 3) := by decide +kernel
theorem d_X10_isPower_4 : decode prog_1_method_35_code 4 = .ok (.iload_n 0, 1) := by decide +kernel
theorem d_X10_isPower_5 : decode prog_1_method_35_code 5 = .ok (.bipush 9, 2) := by decide +kernel
theorem d_X10_isPower_7 : decode prog_1_method_35_code 7 = .ok (.if_icmp .ge 7, 3) := by decide +kernel
theorem d_X10_isPower_10 : decode prog_1_method_35_code 10 = .ok (.iconst 1, 1) := by decide +kernel
theorem d_X10_isPower_11 : decode prog_1_method_35_code 11 = .ok (.goto 4, 3) := by decide +kernel
theorem d_X10_isPower_14 : decode prog_1_method_35_code 14 = .ok (.iconst 0, 1) := by decide +kernel
theorem d_X10_isPower_15 : decode prog_1_method_35_code 15 = .ok (.ireturn, 1) := by decide +kernel
def f_X10_isPower (a0 : Int) (M0 : tp_M) : Option (Int) :=
  if a0 < 0 then
    some 0
  else
    if 9 ≤ a0 then
      some 0
    else
      some 1
set_option maxHeartbeats 4000000 in
set_option maxRecDepth 100000 in
theorem T_X10_isPower (G : tp_G) (a0 : Int) (M0 : tp_M) : tp_J i_X10_isPower (tp_rm 0) G 0 0 (o_X10_isPower M0) tp_NC (tp_st M0) 0 0 [some (.inl a0)] 0 [] (f_X10_isPower a0 M0) := by
  unfold f_X10_isPower
  refine j_iload_n rfl d_X10_isPower_0 rfl ?_
  refine j_if_lt (tgt := 14) d_X10_isPower_1 (by decide) (fun h1 => ?_) (fun h1 => ?_)
  · refine j_iconst ⟨by decide, by decide⟩ d_X10_isPower_14 ?_
    exact j_zret d_X10_isPower_15 rfl (Or.inl rfl) rfl ⟨rfl, rfl⟩
  · refine j_iload_n rfl d_X10_isPower_4 rfl ?_
    refine j_bipush ⟨by decide, by decide⟩ (by decide +kernel) d_X10_isPower_5 ?_
    refine j_icmp_ge (tgt := 14) d_X10_isPower_7 (by decide) (fun h2 => ?_) (fun h2 => ?_)
    · refine j_iconst ⟨by decide, by decide⟩ d_X10_isPower_14 ?_
      exact j_zret d_X10_isPower_15 rfl (Or.inl rfl) rfl ⟨rfl, rfl⟩
    · refine j_iconst ⟨by decide, by decide⟩ d_X10_isPower_10 ?_
      refine j_goto (tgt := 15) d_X10_isPower_11 (by decide) ?_
      exact j_zret d_X10_isPower_15 rfl (Or.inr rfl) rfl ⟨rfl, rfl⟩
set_option maxHeartbeats 4000000 in
set_option maxRecDepth 100000 in
theorem c_X10_isPower (G : tp_G) (a0 : Int) (M0 : tp_M) (r : Int) (h : f_X10_isPower a0 M0 = some r) (l : Launch) : Met l y_X10_isPower (tp_ws y_X10_isPower i_X10_isPower) (tp_rm 0) (tp_Pc G [.inl a0] tp_NC (tp_st M0)) (tp_Q G ((o_X10_isPower M0) r)) 0 0 (tp_A G) :=
  tp_met (I := i_X10_isPower) (y := y_X10_isPower) (by decide +kernel) (Eq.refl "TypesAtPrime") (Eq.refl "isPower") (lv := [some (.inl a0)]) rfl (Nat.le_of_ble_eq_true rfl) (T_X10_isPower G a0 M0) h l
def y_X4_value : MethodName := ⟨"TypesAtPrime$Numbers", "value", "(J)I"⟩
abbrev i_X4_value : tp_I := (prog_6_method_5_code, "TypesAtPrime$Numbers", (some .int), 6, "value")
abbrev o_X4_value (M : tp_M) : Int → tp_O := fun r => (some (.inl r), tp_NC, tp_st M)
theorem d_X4_value_0 : decode prog_6_method_5_code 0 = .ok (.iconst 0, 1) := by decide +kernel
theorem d_X4_value_1 : decode prog_6_method_5_code 1 = .ok (.istore_n 3, 1) := by decide +kernel
theorem d_X4_value_2 : decode prog_6_method_5_code 2 = .ok (.lload_n 1, 1) := by decide +kernel
theorem d_X4_value_3 : decode prog_6_method_5_code 3 = .ok (.lstore 4, 2) := by decide +kernel
theorem d_X4_value_5 : decode prog_6_method_5_code 5 = .ok (.iload_n 3, 1) := by decide +kernel
theorem d_X4_value_6 : decode prog_6_method_5_code 6 = .ok (.aload_n 0, 1) := by decide +kernel
theorem d_X4_value_7 : decode prog_6_method_5_code 7 = .ok (.getfield 13, 3) := by decide +kernel
theorem d_X4_value_10 : decode prog_6_method_5_code 10 = .ok (.if_icmp .ge 40, 3) := by decide +kernel
theorem d_X4_value_13 : decode prog_6_method_5_code 13 = .ok (.aload_n 0, 1) := by decide +kernel
theorem d_X4_value_14 : decode prog_6_method_5_code 14 = .ok (.getfield 7, 3) := by decide +kernel
theorem d_X4_value_17 : decode prog_6_method_5_code 17 = .ok (.iconst 1, 1) := by decide +kernel
theorem d_X4_value_18 : decode prog_6_method_5_code 18 = .ok (.if_icmp .le 32, 3) := by decide +kernel
theorem d_X4_value_21 : decode prog_6_method_5_code 21 = .ok (.lload 4, 2) := by decide +kernel
theorem d_X4_value_23 : decode prog_6_method_5_code 23 = .ok (.aload_n 0, 1) := by decide +kernel
theorem d_X4_value_24 : decode prog_6_method_5_code 24 = .ok (.getfield 7, 3) := by decide +kernel
theorem d_X4_value_27 : decode prog_6_method_5_code 27 = .ok (.i2l, 1) := by decide +kernel
theorem d_X4_value_28 : decode prog_6_method_5_code 28 = .ok (.lrem, 1) := by decide +kernel
theorem d_X4_value_29 : decode prog_6_method_5_code 29 = .ok (.lconst 0, 1) := by decide +kernel
theorem d_X4_value_30 : decode prog_6_method_5_code 30 = .ok (.lcmp, 1) := by decide +kernel
theorem d_X4_value_31 : decode prog_6_method_5_code 31 = .ok (.ifCond .ne 19, 3) := by decide +kernel
theorem d_X4_value_34 : decode prog_6_method_5_code 34 = .ok (.lload 4, 2) := by decide +kernel
theorem d_X4_value_36 : decode prog_6_method_5_code 36 = .ok (.aload_n 0, 1) := by decide +kernel
theorem d_X4_value_37 : decode prog_6_method_5_code 37 = .ok (.getfield 7, 3) := by decide +kernel
theorem d_X4_value_40 : decode prog_6_method_5_code 40 = .ok (.i2l, 1) := by decide +kernel
theorem d_X4_value_41 : decode prog_6_method_5_code 41 = .ok (.ldiv, 1) := by decide +kernel
theorem d_X4_value_42 : decode prog_6_method_5_code 42 = .ok (.lstore 4, 2) := by decide +kernel
theorem d_X4_value_44 : decode prog_6_method_5_code 44 = .ok (.iinc 3 1, 3) := by decide +kernel
theorem d_X4_value_47 : decode prog_6_method_5_code 47 = .ok (.goto (-42), 3) := by decide +kernel
theorem d_X4_value_50 : decode prog_6_method_5_code 50 = .ok (.iload_n 3, 1) := by decide +kernel
theorem d_X4_value_51 : decode prog_6_method_5_code 51 = .ok (.ireturn, 1) := by decide +kernel
def f_X4_value_5B (M0 : tp_M) (rec_5 : Int → Int → Option (Int)) (x3 : Int) (x4 : Int) : Option (Int) :=
  if (M0 1 1) ≤ x3 then
    some x3
  else
    if (M0 1 0) ≤ 1 then
      some x3
    else
      if (M0 1 0) = 0 then none else
        if ¬ (Int.tmod x4 (M0 1 0)) = 0 then
          some x3
        else
          if (M0 1 0) = 0 then none else
            tp_lt ((tp_wl (Int.tdiv x4 (M0 1 0)))) fun y4 =>
            tp_lt (tp_w (x3 + 1)) fun y5 =>
            rec_5 y5 y4
set_option maxHeartbeats 4000000 in
set_option maxRecDepth 100000 in
theorem T_X4_value_5B (G : tp_G) (M0 : tp_M) (rec_5 : Int → Int → Option (Int)) (hrec_5 : ∀ (x3' x4' : Int), tp_J i_X4_value (tp_rm 0) G 0 0 (o_X4_value M0) tp_NC (tp_st M0) 0 0 [some (.inr (.inr 1)), none, none, some (.inl (x3')), some (.inr (.inl (x4'))), none] 5 [] (rec_5 x3' x4')) (x3 : Int) (x4 : Int) : tp_J i_X4_value (tp_rm 0) G 0 0 (o_X4_value M0) tp_NC (tp_st M0) 0 0 [some (.inr (.inr 1)), none, none, some (.inl x3), some (.inr (.inl x4)), none] 5 [] (f_X4_value_5B M0 rec_5 x3 x4) := by
  unfold f_X4_value_5B
  refine j_iload_n rfl d_X4_value_5 rfl ?_
  refine j_aload_n rfl d_X4_value_6 rfl ?_
  refine j_geti fl_Numbers_13 tg_1 d_X4_value_7 ?_
  refine j_icmp_ge (tgt := 50) d_X4_value_10 (by decide) (fun h1 => ?_) (fun h1 => ?_)
  · refine j_iload_n rfl d_X4_value_50 rfl ?_
    exact j_iret d_X4_value_51 rfl rfl ⟨rfl, rfl⟩
  · refine j_aload_n rfl d_X4_value_13 rfl ?_
    refine j_geti fl_Numbers_7 tg_1 d_X4_value_14 ?_
    refine j_iconst ⟨by decide, by decide⟩ d_X4_value_17 ?_
    refine j_icmp_le (tgt := 50) d_X4_value_18 (by decide) (fun h2 => ?_) (fun h2 => ?_)
    · refine j_iload_n rfl d_X4_value_50 rfl ?_
      exact j_iret d_X4_value_51 rfl rfl ⟨rfl, rfl⟩
    · refine j_lload d_X4_value_21 rfl ?_
      refine j_aload_n rfl d_X4_value_23 rfl ?_
      refine j_geti fl_Numbers_7 tg_1 d_X4_value_24 ?_
      refine j_i2l d_X4_value_27 ?_
      refine j_lrem d_X4_value_28 ?_
      refine j_lconst (x := 0) ⟨by decide, by decide⟩ (by decide +kernel) d_X4_value_29 ?_
      refine j_lcmp_ne (tgt := 50) d_X4_value_30 rfl d_X4_value_31 (by decide) (fun h3 => ?_) (fun h3 => ?_)
      · refine j_iload_n rfl d_X4_value_50 rfl ?_
        exact j_iret d_X4_value_51 rfl rfl ⟨rfl, rfl⟩
      · refine j_lload d_X4_value_34 rfl ?_
        refine j_aload_n rfl d_X4_value_36 rfl ?_
        refine j_geti fl_Numbers_7 tg_1 d_X4_value_37 ?_
        refine j_i2l d_X4_value_40 ?_
        refine j_ldiv d_X4_value_41 ?_
        refine j_nmL (fun y4 hy4 => ?_)
        refine j_lstore (lv' := [some (.inr (.inr 1)), none, none, some (.inl x3), some (.inr (.inl y4)), none]) d_X4_value_42 (Nat.le_of_ble_eq_true rfl) rfl ?_
        refine j_iincN (lv' := fun y5 => [some (.inr (.inr 1)), none, none, some (.inl y5), some (.inr (.inl y4)), none]) d_X4_value_44 rfl (Nat.le_of_ble_eq_true rfl) (fun _ => rfl) (fun y5 hy5 => ?_)
        refine j_goto (tgt := 5) d_X4_value_47 (by decide) ?_
        exact j_wk [true, false, false, true, true, false] rfl rfl (hrec_5 y5 y4)
def f_X4_value_5 (x3 : Int) (x4 : Int) (M0 : tp_M) : Option (Int) := tp_lp (σ := Int × Int) (fun rec_ u => f_X4_value_5B M0 (fun x3' x4' => rec_ (x3', x4')) u.1 u.2) tp_N (x3, x4)
set_option maxHeartbeats 4000000 in
set_option maxRecDepth 100000 in
theorem T_X4_value_5 (G : tp_G) (x3 : Int) (x4 : Int) (M0 : tp_M) : tp_J i_X4_value (tp_rm 0) G 0 0 (o_X4_value M0) tp_NC (tp_st M0) 0 0 [some (.inr (.inr 1)), none, none, some (.inl x3), some (.inr (.inl x4)), none] 5 [] (f_X4_value_5 x3 x4 M0) := by
  unfold f_X4_value_5
  exact j_lp (σ := Int × Int) (n' := fun _ => tp_NC) (g' := fun u => tp_st M0) (k' := fun _ => 0) (q' := fun _ => 0) (lv' := fun u => [some (.inr (.inr 1)), none, none, some (.inl u.1), some (.inr (.inl u.2)), none]) (fun rec_ hrec u => T_X4_value_5B G M0 (fun x3' x4' => rec_ (x3', x4')) (fun x3' x4' => hrec (x3', x4')) u.1 u.2) tp_N (x3, x4)
def f_X4_value (a0 : Int) (M0 : tp_M) : Option (Int) :=
  f_X4_value_5 0 a0 M0
set_option maxHeartbeats 4000000 in
set_option maxRecDepth 100000 in
theorem T_X4_value (G : tp_G) (a0 : Int) (M0 : tp_M) : tp_J i_X4_value (tp_rm 0) G 0 0 (o_X4_value M0) tp_NC (tp_st M0) 0 0 [some (.inr (.inr 1)), some (.inr (.inl a0)), none, none, none, none] 0 [] (f_X4_value a0 M0) := by
  unfold f_X4_value
  refine j_iconst ⟨by decide, by decide⟩ d_X4_value_0 ?_
  refine j_istore_n (lv' := [some (.inr (.inr 1)), some (.inr (.inl a0)), none, some (.inl 0), none, none]) rfl d_X4_value_1 (Nat.le_of_ble_eq_true rfl) rfl ?_
  refine j_lload_n rfl d_X4_value_2 rfl ?_
  refine j_lstore (lv' := [some (.inr (.inr 1)), some (.inr (.inl a0)), none, some (.inl 0), some (.inr (.inl a0)), none]) d_X4_value_3 (Nat.le_of_ble_eq_true rfl) rfl ?_
  exact j_wk [true, false, false, true, true, false] rfl rfl (T_X4_value_5 G 0 a0 M0)
set_option maxHeartbeats 4000000 in
set_option maxRecDepth 100000 in
theorem c_X4_value (G : tp_G) (a0 : Int) (M0 : tp_M) (r : Int) (h : f_X4_value a0 M0 = some r) (l : Launch) : Met l y_X4_value (tp_ws y_X4_value i_X4_value) (tp_rm 0) (tp_Pc G [.inr (.inr 1), .inr (.inl a0)] tp_NC (tp_st M0)) (tp_Q G ((o_X4_value M0) r)) 0 0 (tp_A G) :=
  tp_met (I := i_X4_value) (y := y_X4_value) (by decide +kernel) (Eq.refl "TypesAtPrime$Numbers") (Eq.refl "value") (lv := [some (.inr (.inr 1)), some (.inr (.inl a0)), none, none, none, none]) rfl (Nat.le_of_ble_eq_true rfl) (T_X4_value G a0 M0) h l
