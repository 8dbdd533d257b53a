theorem cs_Numbers_31 : tp_CS "TypesAtPrime$Numbers" 31 y_X4_power i_X4_power 1 := ⟨wd_682, wd_2, by decide, by decide, by decide +kernel⟩
theorem wd_736 : (.methodLink "TypesAtPrime$Numbers" 31 ⟨"TypesAtPrime$Numbers", "power", "(I)J"⟩ : Cond) ∈ lw_tbl := List.mem_append_right _ (List.mem_of_getElem? (i := 736) (by decide +kernel))
def y_X4_residueBy : MethodName := ⟨"TypesAtPrime$Numbers", "residueBy", "(JI)I"⟩
abbrev i_X4_residueBy : tp_I := (prog_6_method_6_code, "TypesAtPrime$Numbers", (some .int), 6, "residueBy")
abbrev o_X4_residueBy (M : tp_M) : Int → tp_O := fun r => (some (.inl r), tp_NC, tp_st M)
theorem d_X4_residueBy_0 : decode prog_6_method_6_code 0 = .ok (.aload_n 0, 1) := by decide +kernel
theorem d_X4_residueBy_1 : decode prog_6_method_6_code 1 = .ok (.iload_n 3, 1) := by decide +kernel
theorem d_X4_residueBy_2 : decode prog_6_method_6_code 2 = .ok (.invokevirtual 31, 3) := by decide +kernel
theorem d_X4_residueBy_5 : decode prog_6_method_6_code 5 = .ok (.lstore 4, 2) := by decide +kernel
theorem d_X4_residueBy_7 : decode prog_6_method_6_code 7 = .ok (.lload 4, 2) := by decide +kernel
theorem d_X4_residueBy_9 : decode prog_6_method_6_code 9 = .ok (.lconst 0, 1) := by decide +kernel
theorem d_X4_residueBy_10 : decode prog_6_method_6_code 10 = .ok (.lcmp, 1) := by decide +kernel
theorem d_X4_residueBy_11 : decode prog_6_method_6_code 11 = .ok (.ifCond .le 10, 3) := by decide +kernel
theorem d_X4_residueBy_14 : decode prog_6_method_6_code 14 = .ok (.aload_n 0, 1) := by decide +kernel
theorem d_X4_residueBy_15 : decode prog_6_method_6_code 15 = .ok (.getfield 7, 3) := by decide +kernel
theorem d_X4_residueBy_18 : decode prog_6_method_6_code 18 = .ok (.ifCond .gt 7, 3) := by decide +kernel
theorem d_X4_residueBy_21 : decode prog_6_method_6_code 21 = .ok (.iconst 0, 1) := by decide +kernel
theorem d_X4_residueBy_22 : decode prog_6_method_6_code 22 = .ok (.goto 14, 3) := by decide +kernel
theorem d_X4_residueBy_25 : decode prog_6_method_6_code 25 = .ok (.lload_n 1, 1) := by decide +kernel
theorem d_X4_residueBy_26 : decode prog_6_method_6_code 26 = .ok (.lload 4, 2) := by decide +kernel
theorem d_X4_residueBy_28 : decode prog_6_method_6_code 28 = .ok (.ldiv, 1) := by decide +kernel
theorem d_X4_residueBy_29 : decode prog_6_method_6_code 29 = .ok (.aload_n 0, 1) := by decide +kernel
theorem d_X4_residueBy_30 : decode prog_6_method_6_code 30 = .ok (.getfield 7, 3) := by decide +kernel
theorem d_X4_residueBy_33 : decode prog_6_method_6_code 33 = .ok (.i2l, 1) := by decide +kernel
theorem d_X4_residueBy_34 : decode prog_6_method_6_code 34 = .ok (.lrem, 1) := by decide +kernel
theorem d_X4_residueBy_35 : decode prog_6_method_6_code 35 = .ok (.l2i, 1) := by decide +kernel
theorem d_X4_residueBy_36 : decode prog_6_method_6_code 36 = .ok (.ireturn, 1) := by decide +kernel
def f_X4_residueBy_21 (M0 : tp_M) : Option (Int) :=
  some 0
set_option maxHeartbeats 4000000 in
set_option maxRecDepth 100000 in
theorem T_X4_residueBy_21 (G : tp_G) (M0 : tp_M) : tp_J i_X4_residueBy (tp_rm 1) G 0 0 (o_X4_residueBy M0) tp_NC (tp_st M0) 0 0 [none, none, none, none, none, none] 21 [] (f_X4_residueBy_21 M0) := by
  unfold f_X4_residueBy_21
  refine j_iconst ⟨by decide, by decide⟩ d_X4_residueBy_21 ?_
  refine j_goto (tgt := 36) d_X4_residueBy_22 (by decide) ?_
  exact j_iret d_X4_residueBy_36 rfl rfl ⟨rfl, rfl⟩
def f_X4_residueBy (a0 : Int) (a1 : Int) (M0 : tp_M) : Option (Int) :=
  (f_X4_power a1 M0).bind fun r1 =>
  if r1 ≤ 0 then
    f_X4_residueBy_21 M0
  else
    if 0 < (M0 1 0) then
      if r1 = 0 then none else
        if (M0 1 0) = 0 then none else
          some (tp_w (Int.tmod (tp_wl (Int.tdiv a0 r1)) (M0 1 0)))
    else
      f_X4_residueBy_21 M0
set_option maxHeartbeats 4000000 in
set_option maxRecDepth 100000 in
theorem T_X4_residueBy (G : tp_G) (a0 : Int) (a1 : Int) (M0 : tp_M) : tp_J i_X4_residueBy (tp_rm 1) G 0 0 (o_X4_residueBy M0) tp_NC (tp_st M0) 0 0 [some (.inr (.inr 1)), some (.inr (.inl a0)), none, some (.inl a1), none, none] 0 [] (f_X4_residueBy a0 a1 M0) := by
  unfold f_X4_residueBy
  refine j_aload_n rfl d_X4_residueBy_0 rfl ?_
  refine j_iload_n rfl d_X4_residueBy_1 rfl ?_
  refine j_bind (fun r1 h2 => ?_)
  refine j_callV (y := y_X4_power) (I' := i_X4_power) (avs := [.inl a1]) (c := 1) (st := []) (c_X4_power G a1 M0 r1 h2) cs_Numbers_31 wd_736 wd_680 wd_681 tg_1 rfl rfl rfl (Nat.le_of_ble_eq_true rfl) ⟨rfl, rfl⟩ ⟨by decide, by decide⟩ ⟨by decide, by decide⟩ d_X4_residueBy_2 ?_
  refine j_lstore (lv' := [some (.inr (.inr 1)), some (.inr (.inl a0)), none, some (.inl a1), some (.inr (.inl r1)), none]) d_X4_residueBy_5 (Nat.le_of_ble_eq_true rfl) rfl ?_
  refine j_lload d_X4_residueBy_7 rfl ?_
  refine j_lconst (x := 0) ⟨by decide, by decide⟩ (by decide +kernel) d_X4_residueBy_9 ?_
  refine j_lcmp_le (tgt := 21) d_X4_residueBy_10 rfl d_X4_residueBy_11 (by decide) (fun h3 => ?_) (fun h3 => ?_)
  · exact j_wk [false, false, false, false, false, false] rfl rfl (T_X4_residueBy_21 G M0)
  · refine j_aload_n rfl d_X4_residueBy_14 rfl ?_
    refine j_geti fl_Numbers_7 tg_1 d_X4_residueBy_15 ?_
    refine j_if_gt (tgt := 25) d_X4_residueBy_18 (by decide) (fun h4 => ?_) (fun h4 => ?_)
    · refine j_lload_n rfl d_X4_residueBy_25 rfl ?_
      refine j_lload d_X4_residueBy_26 rfl ?_
      refine j_ldiv d_X4_residueBy_28 ?_
      refine j_aload_n rfl d_X4_residueBy_29 rfl ?_
      refine j_geti fl_Numbers_7 tg_1 d_X4_residueBy_30 ?_
      refine j_i2l d_X4_residueBy_33 ?_
      refine j_lrem d_X4_residueBy_34 ?_
      refine j_l2i d_X4_residueBy_35 ?_
      exact j_iret d_X4_residueBy_36 rfl rfl ⟨rfl, rfl⟩
    · exact j_wk [false, false, false, false, false, false] rfl rfl (T_X4_residueBy_21 G M0)
set_option maxHeartbeats 4000000 in
set_option maxRecDepth 100000 in
theorem c_X4_residueBy (G : tp_G) (a0 : Int) (a1 : Int) (M0 : tp_M) (r : Int) (h : f_X4_residueBy a0 a1 M0 = some r) (l : Launch) : Met l y_X4_residueBy (tp_ws y_X4_residueBy i_X4_residueBy) (tp_rm 1) (tp_Pc G [.inr (.inr 1), .inr (.inl a0), .inl a1] tp_NC (tp_st M0)) (tp_Q G ((o_X4_residueBy M0) r)) 0 0 (tp_A G) :=
  tp_met (I := i_X4_residueBy) (y := y_X4_residueBy) (by decide +kernel) (Eq.refl "TypesAtPrime$Numbers") (Eq.refl "residueBy") (lv := [some (.inr (.inr 1)), some (.inr (.inl a0)), none, some (.inl a1), none, none]) rfl (Nat.le_of_ble_eq_true rfl) (T_X4_residueBy G a0 a1 M0) h l
theorem wd_525 : (.code ⟨"TypesAtPrime", "isPower", "(I)Z"⟩ prog_1_method_35_code 1 (some .boolean) : Cond) ∈ lw_tbl := List.mem_append_right _ (List.mem_of_getElem? (i := 525) (by decide +kernel))
theorem cs_Grower_244 : tp_CS "TypesAtPrime$Grower" 244 y_X10_isPower i_X10_isPower 1 := ⟨wd_525, wd_1, by decide, by decide, by decide +kernel⟩
theorem wd_524 : (.static ⟨"TypesAtPrime", "isPower", "(I)Z"⟩ : Cond) ∈ lw_tbl := List.mem_append_right _ (List.mem_of_getElem? (i := 524) (by decide +kernel))
theorem wd_731 : (.code ⟨"TypesAtPrime$Numbers", "value", "(J)I"⟩ prog_6_method_5_code 6 (some .int) : Cond) ∈ lw_tbl := List.mem_append_right _ (List.mem_of_getElem? (i := 731) (by decide +kernel))
theorem cs_Grower_248 : tp_CS "TypesAtPrime$Grower" 248 y_X4_value i_X4_value 1 := ⟨wd_731, wd_2, by decide, by decide, by decide +kernel⟩
theorem wd_728 : (.methodLink "TypesAtPrime$Grower" 248 ⟨"TypesAtPrime$Numbers", "value", "(J)I"⟩ : Cond) ∈ lw_tbl := List.mem_append_right _ (List.mem_of_getElem? (i := 728) (by decide +kernel))
theorem wd_729 : (.instanceMethod ⟨"TypesAtPrime$Numbers", "value", "(J)I"⟩ : Cond) ∈ lw_tbl := List.mem_append_right _ (List.mem_of_getElem? (i := 729) (by decide +kernel))
theorem wd_730 : (.selects "TypesAtPrime$Numbers" ⟨"TypesAtPrime$Numbers", "value", "(J)I"⟩ ⟨"TypesAtPrime$Numbers", "value", "(J)I"⟩ : Cond) ∈ lw_tbl := List.mem_append_right _ (List.mem_of_getElem? (i := 730) (by decide +kernel))
theorem wd_377 : (.fieldLink "TypesAtPrime$Grower" 37 "TypesAtPrime$Grower" "placeValues" "[I" : Cond) ∈ lw_tbl := List.mem_append_right _ (List.mem_of_getElem? (i := 377) (by decide +kernel))
theorem fl_Grower_37 : tp_F "TypesAtPrime$Grower" 37 1 8 2 := ⟨_, _, _, rfl, by decide, rfl, wd_377, rfl, by decide⟩
theorem tg_307 : tp_tg 307 = 21 := by decide +kernel
theorem al_307 : tp_al 307 = 9 := by decide +kernel
theorem rv_278_8 : tp_rv 278 8 = 307 := by decide +kernel
theorem wd_378 : (.fieldLink "TypesAtPrime$Grower" 41 "TypesAtPrime$Grower" "heads" "[I" : Cond) ∈ lw_tbl := List.mem_append_right _ (List.mem_of_getElem? (i := 378) (by decide +kernel))
theorem fl_Grower_41 : tp_F "TypesAtPrime$Grower" 41 1 9 2 := ⟨_, _, _, rfl, by decide, rfl, wd_378, rfl, by decide⟩
theorem tg_308 : tp_tg 308 = 21 := by decide +kernel
theorem al_308 : tp_al 308 = 9 := by decide +kernel
theorem rv_278_9 : tp_rv 278 9 = 308 := by decide +kernel
theorem wd_379 : (.fieldLink "TypesAtPrime$Grower" 44 "TypesAtPrime$Grower" "residues" "[I" : Cond) ∈ lw_tbl := List.mem_append_right _ (List.mem_of_getElem? (i := 379) (by decide +kernel))
theorem fl_Grower_44 : tp_F "TypesAtPrime$Grower" 44 1 10 2 := ⟨_, _, _, rfl, by decide, rfl, wd_379, rfl, by decide⟩
theorem tg_309 : tp_tg 309 = 21 := by decide +kernel
theorem al_309 : tp_al 309 = 9 := by decide +kernel
theorem rv_278_10 : tp_rv 278 10 = 309 := by decide +kernel
theorem wd_735 : (.code ⟨"TypesAtPrime$Numbers", "residueBy", "(JI)I"⟩ prog_6_method_6_code 6 (some .int) : Cond) ∈ lw_tbl := List.mem_append_right _ (List.mem_of_getElem? (i := 735) (by decide +kernel))
theorem cs_Grower_252 : tp_CS "TypesAtPrime$Grower" 252 y_X4_residueBy i_X4_residueBy 2 := ⟨wd_735, wd_2, by decide, by decide, by decide +kernel⟩
theorem wd_732 : (.methodLink "TypesAtPrime$Grower" 252 ⟨"TypesAtPrime$Numbers", "residueBy", "(JI)I"⟩ : Cond) ∈ lw_tbl := List.mem_append_right _ (List.mem_of_getElem? (i := 732) (by decide +kernel))
theorem wd_733 : (.instanceMethod ⟨"TypesAtPrime$Numbers", "residueBy", "(JI)I"⟩ : Cond) ∈ lw_tbl := List.mem_append_right _ (List.mem_of_getElem? (i := 733) (by decide +kernel))
theorem wd_734 : (.selects "TypesAtPrime$Numbers" ⟨"TypesAtPrime$Numbers", "residueBy", "(JI)I"⟩ ⟨"TypesAtPrime$Numbers", "residueBy", "(JI)I"⟩ : Cond) ∈ lw_tbl := List.mem_append_right _ (List.mem_of_getElem? (i := 734) (by decide +kernel))
def y_X1_findHead : MethodName := ⟨"TypesAtPrime$Grower", "findHead", "(LTypesAtPrime$Knot;I)I"⟩
abbrev i_X1_findHead : tp_I := (prog_3_method_10_code, "TypesAtPrime$Grower", (some .int), 8, "findHead")
abbrev o_X1_findHead : Int × tp_M → tp_O := fun r => (some (.inl r.1), tp_NC, tp_st r.2)
theorem d_X1_findHead_0 : decode prog_3_method_10_code 0 = .ok (.iconst (-1), 1) := by decide +kernel
theorem d_X1_findHead_1 : decode prog_3_method_10_code 1 = .ok (.istore_n 3, 1) := by decide +kernel
theorem d_X1_findHead_2 : decode prog_3_method_10_code 2 = .ok (.iload_n 2, 1) := by decide +kernel
theorem d_X1_findHead_3 : decode prog_3_method_10_code 3 = .ok (.invokestatic 244, 3) := by decide +kernel
theorem d_X1_findHead_6 : decode prog_3_method_10_code 6 = .ok (.ifCond .ne 5, 3) := by decide +kernel
theorem d_X1_findHead_9 : decode prog_3_method_10_code 9 = .ok (.iload_n 3, 1) := by decide +kernel
theorem d_X1_findHead_10 : decode prog_3_method_10_code 10 = .ok (.ireturn, 1) := by decide +kernel
theorem d_X1_findHead_11 : decode prog_3_method_10_code 11 = .ok (.iconst 0, 1) := by decide +kernel
theorem d_X1_findHead_12 : decode prog_3_method_10_code 12 = .ok (.istore 4, 2) := by decide +kernel
theorem d_X1_findHead_14 : decode prog_3_method_10_code 14 = .ok (.iload 4, 2) := by decide +kernel
theorem d_X1_findHead_16 : decode prog_3_method_10_code 16 = .ok (.aload_n 1, 1) := by decide +kernel
theorem d_X1_findHead_17 : decode prog_3_method_10_code 17 = .ok (.getfield 237, 3) := by decide +kernel
theorem d_X1_findHead_20 : decode prog_3_method_10_code 20 = .ok (.if_icmp .ge 136, 3) := by decide +kernel
theorem d_X1_findHead_23 : decode prog_3_method_10_code 23 = .ok (.iload 4, 2) := by decide +kernel
theorem d_X1_findHead_25 : decode prog_3_method_10_code 25 = .ok (.bipush 9, 2) := by decide +kernel
theorem d_X1_findHead_27 : decode prog_3_method_10_code 27 = .ok (.if_icmp .ge 129, 3) := by decide +kernel
theorem d_X1_findHead_30 : decode prog_3_method_10_code 30 = .ok (.iload_n 2, 1) := by decide +kernel
theorem d_X1_findHead_31 : decode prog_3_method_10_code 31 = .ok (.aload_n 1, 1) := by decide +kernel
theorem d_X1_findHead_32 : decode prog_3_method_10_code 32 = .ok (.getfield 237, 3) := by decide +kernel
theorem d_X1_findHead_35 : decode prog_3_method_10_code 35 = .ok (.imul, 1) := by decide +kernel
theorem d_X1_findHead_36 : decode prog_3_method_10_code 36 = .ok (.iload 4, 2) := by decide +kernel
theorem d_X1_findHead_38 : decode prog_3_method_10_code 38 = .ok (.iadd, 1) := by decide +kernel
theorem d_X1_findHead_39 : decode prog_3_method_10_code 39 = .ok (.istore 5, 2) := by decide +kernel
theorem d_X1_findHead_41 : decode prog_3_method_10_code 41 = .ok (.iload 5, 2) := by decide +kernel
theorem d_X1_findHead_43 : decode prog_3_method_10_code 43 = .ok (.ifCond .lt 107, 3) := by decide +kernel
theorem d_X1_findHead_46 : decode prog_3_method_10_code 46 = .ok (.iload 5, 2) := by decide +kernel
theorem d_X1_findHead_48 : decode prog_3_method_10_code 48 = .ok (.aload_n 0, 1) := by decide +kernel
theorem d_X1_findHead_49 : decode prog_3_method_10_code 49 = .ok (.getfield 28, 3) := by decide +kernel
theorem d_X1_findHead_52 : decode prog_3_method_10_code 52 = .ok (.arraylength, 1) := by decide +kernel
theorem d_X1_findHead_53 : decode prog_3_method_10_code 53 = .ok (.if_icmp .ge 97, 3) := by decide +kernel
theorem d_X1_findHead_56 : decode prog_3_method_10_code 56 = .ok (.aload_n 0, 1) := by decide +kernel
theorem d_X1_findHead_57 : decode prog_3_method_10_code 57 = .ok (.getfield 28, 3) := by decide +kernel
theorem d_X1_findHead_60 : decode prog_3_method_10_code 60 = .ok (.iload 5, 2) := by decide +kernel
theorem d_X1_findHead_62 : decode prog_3_method_10_code 62 = .ok (.laload, 1) := by decide +kernel
theorem d_X1_findHead_63 : decode prog_3_method_10_code 63 = .ok (.lconst 0, 1) := by decide +kernel
theorem d_X1_findHead_64 : decode prog_3_method_10_code 64 = .ok (.lcmp, 1) := by decide +kernel
theorem d_X1_findHead_65 : decode prog_3_method_10_code 65 = .ok (.ifCond .ne 6, 3) := by decide +kernel
theorem d_X1_findHead_68 : decode prog_3_method_10_code 68 = .ok (.goto 82, 3) := by decide +kernel
theorem d_X1_findHead_71 : decode prog_3_method_10_code 71 = .ok (.aload_n 0, 1) := by decide +kernel
theorem d_X1_findHead_72 : decode prog_3_method_10_code 72 = .ok (.getfield 53, 3) := by decide +kernel
theorem d_X1_findHead_75 : decode prog_3_method_10_code 75 = .ok (.aload_n 0, 1) := by decide +kernel
theorem d_X1_findHead_76 : decode prog_3_method_10_code 76 = .ok (.getfield 28, 3) := by decide +kernel
theorem d_X1_findHead_79 : decode prog_3_method_10_code 79 = .ok (.iload 5, 2) := by decide +kernel
theorem d_X1_findHead_81 : decode prog_3_method_10_code 81 = .ok (.laload, 1) := by decide +kernel
theorem d_X1_findHead_82 : decode prog_3_method_10_code 82 = .ok (.invokevirtual 248, 3) := by decide +kernel
theorem d_X1_findHead_85 : decode prog_3_method_10_code 85 = .ok (.istore 6, 2) := by decide +kernel
theorem d_X1_findHead_87 : decode prog_3_method_10_code 87 = .ok (.iload 6, 2) := by decide +kernel
theorem d_X1_findHead_89 : decode prog_3_method_10_code 89 = .ok (.aload_n 1, 1) := by decide +kernel
theorem d_X1_findHead_90 : decode prog_3_method_10_code 90 = .ok (.getfield 237, 3) := by decide +kernel
theorem d_X1_findHead_93 : decode prog_3_method_10_code 93 = .ok (.imul, 1) := by decide +kernel
theorem d_X1_findHead_94 : decode prog_3_method_10_code 94 = .ok (.aload_n 0, 1) := by decide +kernel
theorem d_X1_findHead_95 : decode prog_3_method_10_code 95 = .ok (.getfield 37, 3) := by decide +kernel
theorem d_X1_findHead_98 : decode prog_3_method_10_code 98 = .ok (.iload 4, 2) := by decide +kernel
theorem d_X1_findHead_100 : decode prog_3_method_10_code 100 = .ok (.iaload, 1) := by decide +kernel
theorem d_X1_findHead_101 : decode prog_3_method_10_code 101 = .ok (.iadd, 1) := by decide +kernel
theorem d_X1_findHead_102 : decode prog_3_method_10_code 102 = .ok (.istore 7, 2) := by decide +kernel
theorem d_X1_findHead_104 : decode prog_3_method_10_code 104 = .ok (.iload_n 3, 1) := by decide +kernel
theorem d_X1_findHead_105 : decode prog_3_method_10_code 105 = .ok (.ifCond .lt 12, 3) := by decide +kernel
theorem d_X1_findHead_108 : decode prog_3_method_10_code 108 = .ok (.iload_n 3, 1) := by decide +kernel
theorem d_X1_findHead_109 : decode prog_3_method_10_code 109 = .ok (.iload 7, 2) := by decide +kernel
theorem d_X1_findHead_111 : decode prog_3_method_10_code 111 = .ok (.if_icmp .gt 6, 3) := by decide +kernel
theorem d_X1_findHead_114 : decode prog_3_method_10_code 114 = .ok (.goto 36, 3) := by decide +kernel
theorem d_X1_findHead_117 : decode prog_3_method_10_code 117 = .ok (.iload 7, 2) := by decide +kernel
theorem d_X1_findHead_119 : decode prog_3_method_10_code 119 = .ok (.istore_n 3, 1) := by decide +kernel
theorem d_X1_findHead_120 : decode prog_3_method_10_code 120 = .ok (.aload_n 0, 1) := by decide +kernel
theorem d_X1_findHead_121 : decode prog_3_method_10_code 121 = .ok (.getfield 41, 3) := by decide +kernel
theorem d_X1_findHead_124 : decode prog_3_method_10_code 124 = .ok (.iload_n 2, 1) := by decide +kernel
theorem d_X1_findHead_125 : decode prog_3_method_10_code 125 = .ok (.iload 4, 2) := by decide +kernel
theorem d_X1_findHead_127 : decode prog_3_method_10_code 127 = .ok (.iastore, 1) := by decide +kernel
theorem d_X1_findHead_128 : decode prog_3_method_10_code 128 = .ok (.aload_n 0, 1) := by decide +kernel
theorem d_X1_findHead_129 : decode prog_3_method_10_code 129 = .ok (.getfield 44, 3) := by decide +kernel
theorem d_X1_findHead_132 : decode prog_3_method_10_code 132 = .ok (.iload_n 2, 1) := by decide +kernel
theorem d_X1_findHead_133 : decode prog_3_method_10_code 133 = .ok (.aload_n 0, 1) := by decide +kernel
theorem d_X1_findHead_134 : decode prog_3_method_10_code 134 = .ok (.getfield 53, 3) := by decide +kernel
theorem d_X1_findHead_137 : decode prog_3_method_10_code 137 = .ok (.aload_n 0, 1) := by decide +kernel
theorem d_X1_findHead_138 : decode prog_3_method_10_code 138 = .ok (.getfield 28, 3) := by decide +kernel
theorem d_X1_findHead_141 : decode prog_3_method_10_code 141 = .ok (.iload 5, 2) := by decide +kernel
theorem d_X1_findHead_143 : decode prog_3_method_10_code 143 = .ok (.laload, 1) := by decide +kernel
theorem d_X1_findHead_144 : decode prog_3_method_10_code 144 = .ok (.iload 6, 2) := by decide +kernel
theorem d_X1_findHead_146 : decode prog_3_method_10_code 146 = .ok (.invokevirtual 252, 3) := by decide +kernel
theorem d_X1_findHead_149 : decode prog_3_method_10_code 149 = .ok (.iastore, 1) := by decide +kernel
theorem d_X1_findHead_150 : decode prog_3_method_10_code 150 = .ok (.iinc 4 1, 3) := by decide +kernel
theorem d_X1_findHead_153 : decode prog_3_method_10_code 153 = .ok (.goto (-139), 3) := by decide +kernel
theorem d_X1_findHead_156 : decode prog_3_method_10_code 156 = .ok (.iload_n 3, 1) := by decide +kernel
theorem d_X1_findHead_157 : decode prog_3_method_10_code 157 = .ok (.ireturn, 1) := by decide +kernel
def f_X1_findHead_150 (rec_14 : Int → Int → tp_M → Option (Int × tp_M)) (x1 : Int) (x2 : Int) (x3 : Int) (x4 : Int) (M0 : tp_M) : Option (Int × tp_M) :=
  tp_lt (tp_w (x4 + 1)) fun y9 =>
  rec_14 x3 y9 M0
set_option maxHeartbeats 4000000 in
set_option maxRecDepth 100000 in
theorem T_X1_findHead_150 (G : tp_G) (rec_14 : Int → Int → tp_M → Option (Int × tp_M)) (x1 : Int) (x2 : Int) (x3 : Int) (x4 : Int) (M0 : tp_M) (hrec_14 : ∀ (x3' x4' : Int) (M' : tp_M), tp_J i_X1_findHead (tp_rm 2) G 0 0 o_X1_findHead tp_NC (tp_st M') 0 0 [some (.inr (.inr 278)), some (.inr (.inr x1)), some (.inl x2), some (.inl (x3')), some (.inl (x4')), none, none, none] 14 [] (rec_14 x3' x4' M')) (hg_x1 : tp_tg x1 = 2) : tp_J i_X1_findHead (tp_rm 2) G 0 0 o_X1_findHead tp_NC (tp_st M0) 0 0 [some (.inr (.inr 278)), some (.inr (.inr x1)), some (.inl x2), some (.inl x3), some (.inl x4), none, none, none] 150 [] (f_X1_findHead_150 rec_14 x1 x2 x3 x4 M0) := by
  unfold f_X1_findHead_150
  refine j_iincN (lv' := fun y9 => [some (.inr (.inr 278)), some (.inr (.inr x1)), some (.inl x2), some (.inl x3), some (.inl y9), none, none, none]) d_X1_findHead_150 rfl (Nat.le_of_ble_eq_true rfl) (fun _ => rfl) (fun y9 hy9 => ?_)
  refine j_goto (tgt := 14) d_X1_findHead_153 (by decide) ?_
  exact j_wk [true, true, true, true, true, false, false, false] rfl rfl (hrec_14 x3 y9 M0)
def f_X1_findHead_117 (rec_14 : Int → Int → tp_M → Option (Int × tp_M)) (x1 : Int) (x2 : Int) (x4 : Int) (x5 : Int) (x6 : Int) (x7 : Int) (M0 : tp_M) : Option (Int × tp_M) :=
  if 0 ≤ x2 ∧ x2 < 9 then
    tp_mp (tp_up M0 308 x2 x4) fun M16 =>
    if 0 ≤ x5 ∧ x5 < 18 then
      (f_X4_residueBy (M16 304 x5) x6 M16).bind fun r17 =>
      if 0 ≤ x2 ∧ x2 < 9 then
        tp_mp (tp_up M16 309 x2 r17) fun M19 =>
        f_X1_findHead_150 rec_14 x1 x2 x7 x4 M19 else none else none else none
set_option maxHeartbeats 4000000 in
set_option maxRecDepth 100000 in
theorem T_X1_findHead_117 (G : tp_G) (rec_14 : Int → Int → tp_M → Option (Int × tp_M)) (x1 : Int) (x2 : Int) (x4 : Int) (x5 : Int) (x6 : Int) (x7 : Int) (M0 : tp_M) (hrec_14 : ∀ (x3' x4' : Int) (M' : tp_M), tp_J i_X1_findHead (tp_rm 2) G 0 0 o_X1_findHead tp_NC (tp_st M') 0 0 [some (.inr (.inr 278)), some (.inr (.inr x1)), some (.inl x2), some (.inl (x3')), some (.inl (x4')), none, none, none] 14 [] (rec_14 x3' x4' M')) (hg_x1 : tp_tg x1 = 2) : tp_J i_X1_findHead (tp_rm 2) G 0 0 o_X1_findHead tp_NC (tp_st M0) 0 0 [some (.inr (.inr 278)), some (.inr (.inr x1)), some (.inl x2), none, some (.inl x4), some (.inl x5), some (.inl x6), some (.inl x7)] 117 [] (f_X1_findHead_117 rec_14 x1 x2 x4 x5 x6 x7 M0) := by
  unfold f_X1_findHead_117
  refine j_iload d_X1_findHead_117 rfl ?_
  refine j_istore_n (lv' := [some (.inr (.inr 278)), some (.inr (.inr x1)), some (.inl x2), some (.inl x7), some (.inl x4), some (.inl x5), some (.inl x6), some (.inl x7)]) rfl d_X1_findHead_119 (Nat.le_of_ble_eq_true rfl) rfl ?_
  refine j_aload_n rfl d_X1_findHead_120 rfl ?_
  refine j_getr fl_Grower_41 tg_278 rv_278_9 d_X1_findHead_121 ?_
  refine j_iload_n rfl d_X1_findHead_124 rfl ?_
  refine j_iload d_X1_findHead_125 rfl ?_
  refine j_iast tg_308 al_308 d_X1_findHead_127 (fun M16 hM16 => ?_)
  refine j_aload_n rfl d_X1_findHead_128 rfl ?_
  refine j_getr fl_Grower_44 tg_278 rv_278_10 d_X1_findHead_129 ?_
  refine j_iload_n rfl d_X1_findHead_132 rfl ?_
  refine j_aload_n rfl d_X1_findHead_133 rfl ?_
  refine j_getr fl_Grower_53 tg_278 rv_278_0 d_X1_findHead_134 ?_
  refine j_aload_n rfl d_X1_findHead_137 rfl ?_
  refine j_getr fl_Grower_28 tg_278 rv_278_5 d_X1_findHead_138 ?_
  refine j_iload d_X1_findHead_141 rfl ?_
  refine j_lald tg_304 al_304 d_X1_findHead_143 ?_
  refine j_iload d_X1_findHead_144 rfl ?_
  refine j_bind (fun r17 h18 => ?_)
  refine j_callV (y := y_X4_residueBy) (I' := i_X4_residueBy) (avs := [.inr (.inl (M16 304 x5)), .inl x6]) (c := 1) (st := [.inl x2, .inr (.inr 309)]) (c_X4_residueBy G (M16 304 x5) x6 M16 r17 h18) cs_Grower_252 wd_732 wd_733 wd_734 tg_1 rfl rfl rfl (Nat.le_of_ble_eq_true rfl) ⟨rfl, rfl⟩ ⟨by decide, by decide⟩ ⟨by decide, by decide⟩ d_X1_findHead_146 ?_
  refine j_iast tg_309 al_309 d_X1_findHead_149 (fun M19 hM19 => ?_)
  exact j_wk [true, true, true, true, true, false, false, false] rfl rfl (T_X1_findHead_150 G rec_14 x1 x2 x7 x4 M19 hrec_14 hg_x1)
def f_X1_findHead_14B (x1 : Int) (x2 : Int) (rec_14 : Int → Int → tp_M → Option (Int × tp_M)) (x3 : Int) (x4 : Int) (M0 : tp_M) : Option (Int × tp_M) :=
  if (M0 x1 2) ≤ x4 then
    some (x3, M0)
  else
    if 9 ≤ x4 then
      some (x3, M0)
    else
      tp_lt ((tp_w ((tp_w (x2 * (M0 x1 2))) + x4))) fun y7 =>
      if y7 < 0 then
        f_X1_findHead_150 rec_14 x1 x2 x3 x4 M0
      else
        if 18 ≤ y7 then
          f_X1_findHead_150 rec_14 x1 x2 x3 x4 M0
        else
          if 0 ≤ y7 ∧ y7 < 18 then
            if ¬ (M0 304 y7) = 0 then
              if 0 ≤ y7 ∧ y7 < 18 then
                (f_X4_value (M0 304 y7) M0).bind fun r12 =>
                if 0 ≤ x4 ∧ x4 < 9 then
                  tp_lt ((tp_w ((tp_w (r12 * (M0 x1 2))) + (M0 307 x4)))) fun y14 =>
                  if x3 < 0 then
                    f_X1_findHead_117 rec_14 x1 x2 x4 y7 r12 y14 M0
                  else
                    if y14 < x3 then
                      f_X1_findHead_117 rec_14 x1 x2 x4 y7 r12 y14 M0
                    else
                      f_X1_findHead_150 rec_14 x1 x2 x3 x4 M0 else none else none
            else
              f_X1_findHead_150 rec_14 x1 x2 x3 x4 M0 else none
set_option maxHeartbeats 4000000 in
set_option maxRecDepth 100000 in
theorem T_X1_findHead_14B (G : tp_G) (x1 : Int) (x2 : Int) (hg_x1 : tp_tg x1 = 2) (rec_14 : Int → Int → tp_M → Option (Int × tp_M)) (hrec_14 : ∀ (x3' x4' : Int) (M' : tp_M), tp_J i_X1_findHead (tp_rm 2) G 0 0 o_X1_findHead tp_NC (tp_st M') 0 0 [some (.inr (.inr 278)), some (.inr (.inr x1)), some (.inl x2), some (.inl (x3')), some (.inl (x4')), none, none, none] 14 [] (rec_14 x3' x4' M')) (x3 : Int) (x4 : Int) (M0 : tp_M) : tp_J i_X1_findHead (tp_rm 2) G 0 0 o_X1_findHead tp_NC (tp_st M0) 0 0 [some (.inr (.inr 278)), some (.inr (.inr x1)), some (.inl x2), some (.inl x3), some (.inl x4), none, none, none] 14 [] (f_X1_findHead_14B x1 x2 rec_14 x3 x4 M0) := by
  unfold f_X1_findHead_14B
  refine j_iload d_X1_findHead_14 rfl ?_
  refine j_aload_n rfl d_X1_findHead_16 rfl ?_
  refine j_geti fl_Grower_237 hg_x1 d_X1_findHead_17 ?_
  refine j_icmp_ge (tgt := 156) d_X1_findHead_20 (by decide) (fun h5 => ?_) (fun h5 => ?_)
  · refine j_iload_n rfl d_X1_findHead_156 rfl ?_
    exact j_iret d_X1_findHead_157 rfl rfl ⟨rfl, rfl⟩
  · refine j_iload d_X1_findHead_23 rfl ?_
    refine j_bipush ⟨by decide, by decide⟩ (by decide +kernel) d_X1_findHead_25 ?_
    refine j_icmp_ge (tgt := 156) d_X1_findHead_27 (by decide) (fun h6 => ?_) (fun h6 => ?_)
    · refine j_iload_n rfl d_X1_findHead_156 rfl ?_
      exact j_iret d_X1_findHead_157 rfl rfl ⟨rfl, rfl⟩
    · refine j_iload_n rfl d_X1_findHead_30 rfl ?_
      refine j_aload_n rfl d_X1_findHead_31 rfl ?_
      refine j_geti fl_Grower_237 hg_x1 d_X1_findHead_32 ?_
      refine j_imul d_X1_findHead_35 ?_
      refine j_iload d_X1_findHead_36 rfl ?_
      refine j_iadd d_X1_findHead_38 ?_
      refine j_nmI (fun y7 hy7 => ?_)
      refine j_istore (lv' := [some (.inr (.inr 278)), some (.inr (.inr x1)), some (.inl x2), some (.inl x3), some (.inl x4), some (.inl y7), none, none]) d_X1_findHead_39 (Nat.le_of_ble_eq_true rfl) rfl ?_
      refine j_iload d_X1_findHead_41 rfl ?_
      refine j_if_lt (tgt := 150) d_X1_findHead_43 (by decide) (fun h8 => ?_) (fun h8 => ?_)
      · exact j_wk [true, true, true, true, true, false, false, false] rfl rfl (T_X1_findHead_150 G rec_14 x1 x2 x3 x4 M0 hrec_14 hg_x1)
      · refine j_iload d_X1_findHead_46 rfl ?_
        refine j_aload_n rfl d_X1_findHead_48 rfl ?_
        refine j_getr fl_Grower_28 tg_278 rv_278_5 d_X1_findHead_49 ?_
        refine j_alen tg_304 (by decide) al_304 ⟨by decide, by decide⟩ (ty := .long) (by decide) d_X1_findHead_52 ?_
        refine j_icmp_ge (tgt := 150) d_X1_findHead_53 (by decide) (fun h10 => ?_) (fun h10 => ?_)
        · exact j_wk [true, true, true, true, true, false, false, false] rfl rfl (T_X1_findHead_150 G rec_14 x1 x2 x3 x4 M0 hrec_14 hg_x1)
        · refine j_aload_n rfl d_X1_findHead_56 rfl ?_
          refine j_getr fl_Grower_28 tg_278 rv_278_5 d_X1_findHead_57 ?_
          refine j_iload d_X1_findHead_60 rfl ?_
          refine j_lald tg_304 al_304 d_X1_findHead_62 ?_
          refine j_lconst (x := 0) ⟨by decide, by decide⟩ (by decide +kernel) d_X1_findHead_63 ?_
          refine j_lcmp_ne (tgt := 71) d_X1_findHead_64 rfl d_X1_findHead_65 (by decide) (fun h11 => ?_) (fun h11 => ?_)
          · refine j_aload_n rfl d_X1_findHead_71 rfl ?_
            refine j_getr fl_Grower_53 tg_278 rv_278_0 d_X1_findHead_72 ?_
            refine j_aload_n rfl d_X1_findHead_75 rfl ?_
            refine j_getr fl_Grower_28 tg_278 rv_278_5 d_X1_findHead_76 ?_
            refine j_iload d_X1_findHead_79 rfl ?_
            refine j_lald tg_304 al_304 d_X1_findHead_81 ?_
            refine j_bind (fun r12 h13 => ?_)
            refine j_callV (y := y_X4_value) (I' := i_X4_value) (avs := [.inr (.inl (M0 304 y7))]) (c := 1) (st := []) (c_X4_value G (M0 304 y7) M0 r12 h13) cs_Grower_248 wd_728 wd_729 wd_730 tg_1 rfl rfl rfl (Nat.le_of_ble_eq_true rfl) ⟨rfl, rfl⟩ ⟨by decide, by decide⟩ ⟨by decide, by decide⟩ d_X1_findHead_82 ?_
            refine j_istore (lv' := [some (.inr (.inr 278)), some (.inr (.inr x1)), some (.inl x2), some (.inl x3), some (.inl x4), some (.inl y7), some (.inl r12), none]) d_X1_findHead_85 (Nat.le_of_ble_eq_true rfl) rfl ?_
            refine j_iload d_X1_findHead_87 rfl ?_
            refine j_aload_n rfl d_X1_findHead_89 rfl ?_
            refine j_geti fl_Grower_237 hg_x1 d_X1_findHead_90 ?_
            refine j_imul d_X1_findHead_93 ?_
            refine j_aload_n rfl d_X1_findHead_94 rfl ?_
            refine j_getr fl_Grower_37 tg_278 rv_278_8 d_X1_findHead_95 ?_
            refine j_iload d_X1_findHead_98 rfl ?_
            refine j_iald tg_307 al_307 d_X1_findHead_100 ?_
            refine j_iadd d_X1_findHead_101 ?_
            refine j_nmI (fun y14 hy14 => ?_)
            refine j_istore (lv' := [some (.inr (.inr 278)), some (.inr (.inr x1)), some (.inl x2), some (.inl x3), some (.inl x4), some (.inl y7), some (.inl r12), some (.inl y14)]) d_X1_findHead_102 (Nat.le_of_ble_eq_true rfl) rfl ?_
            refine j_iload_n rfl d_X1_findHead_104 rfl ?_
            refine j_if_lt (tgt := 117) d_X1_findHead_105 (by decide) (fun h15 => ?_) (fun h15 => ?_)
            · exact j_wk [true, true, true, false, true, true, true, true] rfl rfl (T_X1_findHead_117 G rec_14 x1 x2 x4 y7 r12 y14 M0 hrec_14 hg_x1)
            · refine j_iload_n rfl d_X1_findHead_108 rfl ?_
              refine j_iload d_X1_findHead_109 rfl ?_
              refine j_icmp_gt (tgt := 117) d_X1_findHead_111 (by decide) (fun h20 => ?_) (fun h20 => ?_)
              · exact j_wk [true, true, true, false, true, true, true, true] rfl rfl (T_X1_findHead_117 G rec_14 x1 x2 x4 y7 r12 y14 M0 hrec_14 hg_x1)
              · refine j_goto (tgt := 150) d_X1_findHead_114 (by decide) ?_
                exact j_wk [true, true, true, true, true, false, false, false] rfl rfl (T_X1_findHead_150 G rec_14 x1 x2 x3 x4 M0 hrec_14 hg_x1)
          · refine j_goto (tgt := 150) d_X1_findHead_68 (by decide) ?_
            exact j_wk [true, true, true, true, true, false, false, false] rfl rfl (T_X1_findHead_150 G rec_14 x1 x2 x3 x4 M0 hrec_14 hg_x1)
def f_X1_findHead_14 (x1 : Int) (x2 : Int) (x3 : Int) (x4 : Int) (M0 : tp_M) : Option (Int × tp_M) := tp_lp (σ := Int × Int × tp_M) (fun rec_ u => f_X1_findHead_14B x1 x2 (fun x3' x4' M0' => rec_ (x3', x4', M0')) u.1 u.2.1 u.2.2) tp_N (x3, x4, M0)
set_option maxHeartbeats 4000000 in
set_option maxRecDepth 100000 in
theorem T_X1_findHead_14 (G : tp_G) (x1 : Int) (x2 : Int) (x3 : Int) (x4 : Int) (M0 : tp_M) (hg_x1 : tp_tg x1 = 2) : tp_J i_X1_findHead (tp_rm 2) G 0 0 o_X1_findHead tp_NC (tp_st M0) 0 0 [some (.inr (.inr 278)), some (.inr (.inr x1)), some (.inl x2), some (.inl x3), some (.inl x4), none, none, none] 14 [] (f_X1_findHead_14 x1 x2 x3 x4 M0) := by
  unfold f_X1_findHead_14
  exact j_lp (σ := Int × Int × tp_M) (n' := fun _ => tp_NC) (g' := fun u => tp_st u.2.2) (k' := fun _ => 0) (q' := fun _ => 0) (lv' := fun u => [some (.inr (.inr 278)), some (.inr (.inr x1)), some (.inl x2), some (.inl u.1), some (.inl u.2.1), none, none, none]) (fun rec_ hrec u => T_X1_findHead_14B G x1 x2 hg_x1 (fun x3' x4' M0' => rec_ (x3', x4', M0')) (fun x3' x4' M0' => hrec (x3', x4', M0')) u.1 u.2.1 u.2.2) tp_N (x3, x4, M0)
def f_X1_findHead (a0 : Int) (a1 : Int) (M0 : tp_M) : Option (Int × tp_M) :=
  if tp_tg a0 = 2 then
    (f_X10_isPower a1 M0).bind fun r2 =>
    if ¬ r2 = 0 then
      f_X1_findHead_14 a0 a1 (-1) 0 M0
    else
      some ((-1), M0) else none
set_option maxHeartbeats 4000000 in
set_option maxRecDepth 100000 in
theorem T_X1_findHead (G : tp_G) (a0 : Int) (a1 : Int) (M0 : tp_M) : tp_J i_X1_findHead (tp_rm 2) G 0 0 o_X1_findHead tp_NC (tp_st M0) 0 0 [some (.inr (.inr 278)), some (.inr (.inr a0)), some (.inl a1), none, none, none, none, none] 0 [] (f_X1_findHead a0 a1 M0) := by
  unfold f_X1_findHead
  refine tp_chk (fun ht1 => ?_)
  refine j_iconst ⟨by decide, by decide⟩ d_X1_findHead_0 ?_
  refine j_istore_n (lv' := [some (.inr (.inr 278)), some (.inr (.inr a0)), some (.inl a1), some (.inl (-1)), none, none, none, none]) rfl d_X1_findHead_1 (Nat.le_of_ble_eq_true rfl) rfl ?_
  refine j_iload_n rfl d_X1_findHead_2 rfl ?_
  refine j_bind (fun r2 h3 => ?_)
  refine j_callSN (y := y_X10_isPower) (I' := i_X10_isPower) (avs := [.inl a1]) (st := []) (c_X10_isPower G a1 M0 r2 h3) cs_Grower_244 (by decide +kernel : (.methodLinkNest "TypesAtPrime$Grower" 244 ⟨"TypesAtPrime", "isPower", "(I)Z"⟩ "TypesAtPrime" : Cond) ∈ tp_nest) wd_524 rfl rfl (Nat.le_of_ble_eq_true rfl) ⟨rfl, rfl⟩ ⟨by decide, by decide⟩ ⟨by decide, by decide⟩ d_X1_findHead_3 ?_
  refine j_if_ne (tgt := 11) d_X1_findHead_6 (by decide) (fun h4 => ?_) (fun h4 => ?_)
  · refine j_iconst ⟨by decide, by decide⟩ d_X1_findHead_11 ?_
    refine j_istore (lv' := [some (.inr (.inr 278)), some (.inr (.inr a0)), some (.inl a1), some (.inl (-1)), some (.inl 0), none, none, none]) d_X1_findHead_12 (Nat.le_of_ble_eq_true rfl) rfl ?_
    exact j_wk [true, true, true, true, true, false, false, false] rfl rfl (T_X1_findHead_14 G a0 a1 (-1) 0 M0 ht1)
  · refine j_iload_n rfl d_X1_findHead_9 rfl ?_
    exact j_iret d_X1_findHead_10 rfl rfl ⟨rfl, rfl⟩
set_option maxHeartbeats 4000000 in
set_option maxRecDepth 100000 in
theorem c_X1_findHead (G : tp_G) (a0 : Int) (a1 : Int) (M0 : tp_M) (r : Int × tp_M) (h : f_X1_findHead a0 a1 M0 = some r) (l : Launch) : Met l y_X1_findHead (tp_ws y_X1_findHead i_X1_findHead) (tp_rm 2) (tp_Pc G [.inr (.inr 278), .inr (.inr a0), .inl a1] tp_NC (tp_st M0)) (tp_Q G (o_X1_findHead r)) 0 0 (tp_A G) :=
  tp_met (I := i_X1_findHead) (y := y_X1_findHead) (by decide +kernel) (Eq.refl "TypesAtPrime$Grower") (Eq.refl "findHead") (lv := [some (.inr (.inr 278)), some (.inr (.inr a0)), some (.inl a1), none, none, none, none, none]) rfl (Nat.le_of_ble_eq_true rfl) (T_X1_findHead G a0 a1 M0) h l
theorem wd_705 : (.code ⟨"TypesAtPrime$Grower", "expandParts", "(LTypesAtPrime$Knot;)V"⟩ prog_3_method_9_code 5 (none : Option Jvm.ClassFile.FieldType) : Cond) ∈ lw_tbl := List.mem_append_right _ (List.mem_of_getElem? (i := 705) (by decide +kernel))
theorem cs_Grower_206 : tp_CS "TypesAtPrime$Grower" 206 y_X1_expandParts i_X1_expandParts 1 := ⟨wd_705, wd_10, by decide, by decide, by decide +kernel⟩
theorem wd_702 : (.methodLink "TypesAtPrime$Grower" 206 ⟨"TypesAtPrime$Grower", "expandParts", "(LTypesAtPrime$Knot;)V"⟩ : Cond) ∈ lw_tbl := List.mem_append_right _ (List.mem_of_getElem? (i := 702) (by decide +kernel))
theorem wd_704 : (.instanceMethod ⟨"TypesAtPrime$Grower", "expandParts", "(LTypesAtPrime$Knot;)V"⟩ : Cond) ∈ lw_tbl := List.mem_append_right _ (List.mem_of_getElem? (i := 704) (by decide +kernel))
theorem ws_23 : (.selects "TypesAtPrime$Grower" ⟨"TypesAtPrime$Grower", "expandParts", "(LTypesAtPrime$Knot;)V"⟩ ⟨"TypesAtPrime$Grower", "expandParts", "(LTypesAtPrime$Knot;)V"⟩ : Cond) ∈ lw_tbl := List.mem_append_left _ (List.mem_of_getElem? (i := 23) (by decide +kernel))
theorem wd_722 : (.code ⟨"TypesAtPrime$Path", "lift", "(I)I"⟩ prog_7_method_4_code 2 (some .int) : Cond) ∈ lw_tbl := List.mem_append_right _ (List.mem_of_getElem? (i := 722) (by decide +kernel))
theorem cs_Grower_212 : tp_CS "TypesAtPrime$Grower" 212 y_X5_lift i_X5_lift 1 := ⟨wd_722, wd_11, by decide, by decide, by decide +kernel⟩
theorem wd_719 : (.methodLink "TypesAtPrime$Grower" 212 ⟨"TypesAtPrime$Path", "lift", "(I)I"⟩ : Cond) ∈ lw_tbl := List.mem_append_right _ (List.mem_of_getElem? (i := 719) (by decide +kernel))
theorem wd_720 : (.instanceMethod ⟨"TypesAtPrime$Path", "lift", "(I)I"⟩ : Cond) ∈ lw_tbl := List.mem_append_right _ (List.mem_of_getElem? (i := 720) (by decide +kernel))
theorem wd_721 : (.selects "TypesAtPrime$Path" ⟨"TypesAtPrime$Path", "lift", "(I)I"⟩ ⟨"TypesAtPrime$Path", "lift", "(I)I"⟩ : Cond) ∈ lw_tbl := List.mem_append_right _ (List.mem_of_getElem? (i := 721) (by decide +kernel))
theorem wd_169 : (.fieldLink "TypesAtPrime$Grower" 216 "TypesAtPrime$Knot" "manifold" "I" : Cond) ∈ lw_tbl := List.mem_append_right _ (List.mem_of_getElem? (i := 169) (by decide +kernel))
theorem fl_Grower_216 : tp_F "TypesAtPrime$Grower" 216 2 1 0 := ⟨_, _, _, rfl, by decide, rfl, wd_169, rfl, by decide⟩
theorem wd_177 : (.fieldLink "TypesAtPrime$Grower" 159 "TypesAtPrime$Knot" "first" "I" : Cond) ∈ lw_tbl := List.mem_append_right _ (List.mem_of_getElem? (i := 177) (by decide +kernel))
theorem fl_Grower_159 : tp_F "TypesAtPrime$Grower" 159 2 4 0 := ⟨_, _, _, rfl, by decide, rfl, wd_177, rfl, by decide⟩
theorem pf_2_4 (v : Int) : ∀ (C : String) (T : u_T) (N : Nat), vwCl[2]? = some (C, T, N) → (T 4).2.2.2 = false ∧ ∀ G : tp_G, ∃ ty, parseFieldDescriptor (T 4).2.2.1 = some ty ∧ narrow ty (tp_enc G (tp_zv 0 v)) = tp_enc G (tp_zv 0 v) ∧ fits ty (tp_enc G (tp_zv 0 v)) = true := by
  intro C T N h
  cases h
  exact ⟨rfl, fun G => ⟨_, tyX2_ok 4 (by decide), rfl, rfl⟩⟩
theorem pt_2 : ∃ ty0 : Nat → FieldType, ∀ (C : String) (T : u_T) (N : Nat), vwCl[2]? = some (C, T, N) → (∀ k, k < N → parseFieldDescriptor (T k).2.2.1 = some (ty0 k)) ∧ ∀ a, a < N → ∀ b, b < N → a ≠ b → (T a).2.1 ≠ (T b).2.1 := ⟨tyX2, fun C T N h => by cases h; exact ⟨tyX2_ok, nmX2⟩⟩
theorem wd_726 : (.code ⟨"TypesAtPrime$Grower", "findHead", "(LTypesAtPrime$Knot;I)I"⟩ prog_3_method_10_code 8 (some .int) : Cond) ∈ lw_tbl := List.mem_append_right _ (List.mem_of_getElem? (i := 726) (by decide +kernel))
theorem cs_Grower_224 : tp_CS "TypesAtPrime$Grower" 224 y_X1_findHead i_X1_findHead 2 := ⟨wd_726, wd_10, by decide, by decide, by decide +kernel⟩
theorem wd_723 : (.methodLink "TypesAtPrime$Grower" 224 ⟨"TypesAtPrime$Grower", "findHead", "(LTypesAtPrime$Knot;I)I"⟩ : Cond) ∈ lw_tbl := List.mem_append_right _ (List.mem_of_getElem? (i := 723) (by decide +kernel))
theorem wd_725 : (.instanceMethod ⟨"TypesAtPrime$Grower", "findHead", "(LTypesAtPrime$Knot;I)I"⟩ : Cond) ∈ lw_tbl := List.mem_append_right _ (List.mem_of_getElem? (i := 725) (by decide +kernel))
theorem ws_24 : (.selects "TypesAtPrime$Grower" ⟨"TypesAtPrime$Grower", "findHead", "(LTypesAtPrime$Knot;I)I"⟩ ⟨"TypesAtPrime$Grower", "findHead", "(LTypesAtPrime$Knot;I)I"⟩ : Cond) ∈ lw_tbl := List.mem_append_left _ (List.mem_of_getElem? (i := 24) (by decide +kernel))
theorem wd_194 : (.fieldLink "TypesAtPrime$Grower" 228 "TypesAtPrime$Knot" "points" "[I" : Cond) ∈ lw_tbl := List.mem_append_right _ (List.mem_of_getElem? (i := 194) (by decide +kernel))
theorem fl_Grower_228 : tp_F "TypesAtPrime$Grower" 228 2 9 2 := ⟨_, _, _, rfl, by decide, rfl, wd_194, rfl, by decide⟩
theorem fam_2_9 : ∀ c : Int, tp_tg c = 2 → tp_rv c 9 = c + 2 ∧ tp_tg (c + 2) = 21 ∧ tp_al (c + 2) = 9 := by
  intro c hc
  obtain ⟨h0, xs, -, h2⟩ := tp_tg_at (t := 2) hc
  have h : (List.range tp_NC).all (fun i => decide (tp_tg (i : Int) = 2 → tp_rv (i : Int) 9 = (i : Int) + 2 ∧ tp_tg ((i : Int) + 2) = 21 ∧ tp_al ((i : Int) + 2) = 9)) = true := by decide +kernel
  have h3 := List.all_eq_true.mp h c.toNat (List.mem_range.mpr h2)
  have h4 : ((c.toNat : Nat) : Int) = c := by omega
  rw [h4] at h3
  exact of_decide_eq_true h3 hc
theorem wd_712 : (.code ⟨"TypesAtPrime$Path", "valueOfPlace", "(II)I"⟩ prog_7_method_6_code 6 (some .int) : Cond) ∈ lw_tbl := List.mem_append_right _ (List.mem_of_getElem? (i := 712) (by decide +kernel))
theorem cs_Grower_209 : tp_CS "TypesAtPrime$Grower" 209 y_X5_valueOfPlace i_X5_valueOfPlace 2 := ⟨wd_712, wd_11, by decide, by decide, by decide +kernel⟩
theorem wd_709 : (.methodLink "TypesAtPrime$Grower" 209 ⟨"TypesAtPrime$Path", "valueOfPlace", "(II)I"⟩ : Cond) ∈ lw_tbl := List.mem_append_right _ (List.mem_of_getElem? (i := 709) (by decide +kernel))
theorem wd_710 : (.instanceMethod ⟨"TypesAtPrime$Path", "valueOfPlace", "(II)I"⟩ : Cond) ∈ lw_tbl := List.mem_append_right _ (List.mem_of_getElem? (i := 710) (by decide +kernel))
theorem wd_711 : (.selects "TypesAtPrime$Path" ⟨"TypesAtPrime$Path", "valueOfPlace", "(II)I"⟩ ⟨"TypesAtPrime$Path", "valueOfPlace", "(II)I"⟩ : Cond) ∈ lw_tbl := List.mem_append_right _ (List.mem_of_getElem? (i := 711) (by decide +kernel))
def y_X1_findPoints : MethodName := ⟨"TypesAtPrime$Grower", "findPoints", "(LTypesAtPrime$Knot;)V"⟩
abbrev i_X1_findPoints : tp_I := (prog_3_method_8_code, "TypesAtPrime$Grower", none, 5, "findPoints")
abbrev o_X1_findPoints : tp_M → tp_O := fun r => (none, tp_NC, tp_st r)
theorem d_X1_findPoints_0 : decode prog_3_method_8_code 0 = .ok (.aload_n 0, 1) := by decide +kernel
theorem d_X1_findPoints_1 : decode prog_3_method_8_code 1 = .ok (.aload_n 1, 1) := by decide +kernel
theorem d_X1_findPoints_2 : decode prog_3_method_8_code 2 = .ok (.invokevirtual 206, 3) := by decide +kernel
theorem d_X1_findPoints_5 : decode prog_3_method_8_code 5 = .ok (.iconst 0, 1) := by decide +kernel
theorem d_X1_findPoints_6 : decode prog_3_method_8_code 6 = .ok (.istore_n 2, 1) := by decide +kernel
theorem d_X1_findPoints_7 : decode prog_3_method_8_code 7 = .ok (.iload_n 2, 1) := by decide +kernel
theorem d_X1_findPoints_8 : decode prog_3_method_8_code 8 = .ok (.bipush 9, 2) := by decide +kernel
theorem d_X1_findPoints_10 : decode prog_3_method_8_code 10 = .ok (.if_icmp .ge 27, 3) := by decide +kernel
theorem d_X1_findPoints_13 : decode prog_3_method_8_code 13 = .ok (.aload_n 0, 1) := by decide +kernel
theorem d_X1_findPoints_14 : decode prog_3_method_8_code 14 = .ok (.getfield 37, 3) := by decide +kernel
theorem d_X1_findPoints_17 : decode prog_3_method_8_code 17 = .ok (.iload_n 2, 1) := by decide +kernel
theorem d_X1_findPoints_18 : decode prog_3_method_8_code 18 = .ok (.aload_n 0, 1) := by decide +kernel
theorem d_X1_findPoints_19 : decode prog_3_method_8_code 19 = .ok (.getfield 12, 3) := by decide +kernel
theorem d_X1_findPoints_22 : decode prog_3_method_8_code 22 = .ok (.iload_n 2, 1) := by decide +kernel
theorem d_X1_findPoints_23 : decode prog_3_method_8_code 23 = .ok (.aload_n 1, 1) := by decide +kernel
theorem d_X1_findPoints_24 : decode prog_3_method_8_code 24 = .ok (.getfield 177, 3) := by decide +kernel
theorem d_X1_findPoints_27 : decode prog_3_method_8_code 27 = .ok (.invokevirtual 209, 3) := by decide +kernel
theorem d_X1_findPoints_30 : decode prog_3_method_8_code 30 = .ok (.iastore, 1) := by decide +kernel
theorem d_X1_findPoints_31 : decode prog_3_method_8_code 31 = .ok (.iinc 2 1, 3) := by decide +kernel
theorem d_X1_findPoints_34 : decode prog_3_method_8_code 34 = .ok (.goto (-27), 3) := by decide +kernel
theorem d_X1_findPoints_37 : decode prog_3_method_8_code 37 = .ok (.aload_n 0, 1) := by decide +kernel
theorem d_X1_findPoints_38 : decode prog_3_method_8_code 38 = .ok (.getfield 12, 3) := by decide +kernel
theorem d_X1_findPoints_41 : decode prog_3_method_8_code 41 = .ok (.aload_n 1, 1) := by decide +kernel
theorem d_X1_findPoints_42 : decode prog_3_method_8_code 42 = .ok (.getfield 177, 3) := by decide +kernel
theorem d_X1_findPoints_45 : decode prog_3_method_8_code 45 = .ok (.invokevirtual 212, 3) := by decide +kernel
theorem d_X1_findPoints_48 : decode prog_3_method_8_code 48 = .ok (.istore_n 2, 1) := by decide +kernel
theorem d_X1_findPoints_49 : decode prog_3_method_8_code 49 = .ok (.aload_n 1, 1) := by decide +kernel
theorem d_X1_findPoints_50 : decode prog_3_method_8_code 50 = .ok (.aload_n 1, 1) := by decide +kernel
theorem d_X1_findPoints_51 : decode prog_3_method_8_code 51 = .ok (.getfield 216, 3) := by decide +kernel
theorem d_X1_findPoints_54 : decode prog_3_method_8_code 54 = .ok (.putfield 159, 3) := by decide +kernel
theorem d_X1_findPoints_57 : decode prog_3_method_8_code 57 = .ok (.aload_n 1, 1) := by decide +kernel
theorem d_X1_findPoints_58 : decode prog_3_method_8_code 58 = .ok (.getfield 216, 3) := by decide +kernel
theorem d_X1_findPoints_61 : decode prog_3_method_8_code 61 = .ok (.bipush 8, 2) := by decide +kernel
theorem d_X1_findPoints_63 : decode prog_3_method_8_code 63 = .ok (.invokestatic 219, 3) := by decide +kernel
theorem d_X1_findPoints_66 : decode prog_3_method_8_code 66 = .ok (.istore_n 3, 1) := by decide +kernel
theorem d_X1_findPoints_67 : decode prog_3_method_8_code 67 = .ok (.iload_n 3, 1) := by decide +kernel
theorem d_X1_findPoints_68 : decode prog_3_method_8_code 68 = .ok (.ifCond .lt 42, 3) := by decide +kernel
theorem d_X1_findPoints_71 : decode prog_3_method_8_code 71 = .ok (.aload_n 0, 1) := by decide +kernel
theorem d_X1_findPoints_72 : decode prog_3_method_8_code 72 = .ok (.aload_n 1, 1) := by decide +kernel
theorem d_X1_findPoints_73 : decode prog_3_method_8_code 73 = .ok (.iload_n 3, 1) := by decide +kernel
theorem d_X1_findPoints_74 : decode prog_3_method_8_code 74 = .ok (.invokevirtual 224, 3) := by decide +kernel
theorem d_X1_findPoints_77 : decode prog_3_method_8_code 77 = .ok (.istore 4, 2) := by decide +kernel
theorem d_X1_findPoints_79 : decode prog_3_method_8_code 79 = .ok (.iload 4, 2) := by decide +kernel
theorem d_X1_findPoints_81 : decode prog_3_method_8_code 81 = .ok (.ifCond .ge 6, 3) := by decide +kernel
theorem d_X1_findPoints_84 : decode prog_3_method_8_code 84 = .ok (.goto 20, 3) := by decide +kernel
theorem d_X1_findPoints_87 : decode prog_3_method_8_code 87 = .ok (.aload_n 1, 1) := by decide +kernel
theorem d_X1_findPoints_88 : decode prog_3_method_8_code 88 = .ok (.getfield 228, 3) := by decide +kernel
theorem d_X1_findPoints_91 : decode prog_3_method_8_code 91 = .ok (.iload_n 3, 1) := by decide +kernel
theorem d_X1_findPoints_92 : decode prog_3_method_8_code 92 = .ok (.iload 4, 2) := by decide +kernel
theorem d_X1_findPoints_94 : decode prog_3_method_8_code 94 = .ok (.iload_n 3, 1) := by decide +kernel
theorem d_X1_findPoints_95 : decode prog_3_method_8_code 95 = .ok (.iload_n 2, 1) := by decide +kernel
theorem d_X1_findPoints_96 : decode prog_3_method_8_code 96 = .ok (.imul, 1) := by decide +kernel
theorem d_X1_findPoints_97 : decode prog_3_method_8_code 97 = .ok (.iadd, 1) := by decide +kernel
theorem d_X1_findPoints_98 : decode prog_3_method_8_code 98 = .ok (.iastore, 1) := by decide +kernel
theorem d_X1_findPoints_99 : decode prog_3_method_8_code 99 = .ok (.aload_n 1, 1) := by decide +kernel
theorem d_X1_findPoints_100 : decode prog_3_method_8_code 100 = .ok (.iload_n 3, 1) := by decide +kernel
theorem d_X1_findPoints_101 : decode prog_3_method_8_code 101 = .ok (.putfield 159, 3) := by decide +kernel
theorem d_X1_findPoints_104 : decode prog_3_method_8_code 104 = .ok (.iinc 3 (-1), 3) := by decide +kernel
theorem d_X1_findPoints_107 : decode prog_3_method_8_code 107 = .ok (.goto (-40), 3) := by decide +kernel
theorem d_X1_findPoints_110 : decode prog_3_method_8_code 110 = .ok (.return_, 1) := by decide +kernel
def f_X1_findPoints_104 (rec_67 : Int → tp_M → Option (tp_M)) (x1 : Int) (x2 : Int) (x3 : Int) (M0 : tp_M) : Option (tp_M) :=
  tp_lt (tp_w (x3 + (-1))) fun y15 =>
  rec_67 y15 M0
set_option maxHeartbeats 4000000 in
set_option maxRecDepth 100000 in
theorem T_X1_findPoints_104 (G : tp_G) (rec_67 : Int → tp_M → Option (tp_M)) (x1 : Int) (x2 : Int) (x3 : Int) (M0 : tp_M) (hrec_67 : ∀ (x3' : Int) (M' : tp_M), tp_J i_X1_findPoints (tp_rm 3) G 0 0 o_X1_findPoints tp_NC (tp_st M') 0 0 [some (.inr (.inr 278)), some (.inr (.inr x1)), some (.inl x2), some (.inl (x3')), none] 67 [] (rec_67 x3' M')) (hg_x1 : tp_tg x1 = 2) : tp_J i_X1_findPoints (tp_rm 3) G 0 0 o_X1_findPoints tp_NC (tp_st M0) 0 0 [some (.inr (.inr 278)), some (.inr (.inr x1)), some (.inl x2), some (.inl x3), none] 104 [] (f_X1_findPoints_104 rec_67 x1 x2 x3 M0) := by
  unfold f_X1_findPoints_104
  refine j_iincN (lv' := fun y15 => [some (.inr (.inr 278)), some (.inr (.inr x1)), some (.inl x2), some (.inl y15), none]) d_X1_findPoints_104 rfl (Nat.le_of_ble_eq_true rfl) (fun _ => rfl) (fun y15 hy15 => ?_)
  refine j_goto (tgt := 67) d_X1_findPoints_107 (by decide) ?_
  exact j_wk [true, true, true, true, false] rfl rfl (hrec_67 y15 M0)
def f_X1_findPoints_67B (x1 : Int) (x2 : Int) (rec_67 : Int → tp_M → Option (tp_M)) (x3 : Int) (M0 : tp_M) : Option (tp_M) :=
  if x3 < 0 then
    some M0
  else
    (f_X1_findHead x1 x3 M0).bind fun r10 =>
    if 0 ≤ r10.1 then
      if 0 ≤ x3 ∧ x3 < 9 then
        tp_mp (tp_up r10.2 (x1 + 2) x3 (tp_w (r10.1 + (tp_w (x3 * x2))))) fun M13 =>
        tp_mp (tp_up M13 x1 4 x3) fun M14 =>
        f_X1_findPoints_104 rec_67 x1 x2 x3 M14 else none
    else
      f_X1_findPoints_104 rec_67 x1 x2 x3 r10.2
set_option maxHeartbeats 4000000 in
set_option maxRecDepth 100000 in
theorem T_X1_findPoints_67B (G : tp_G) (x1 : Int) (x2 : Int) (hg_x1 : tp_tg x1 = 2) (rec_67 : Int → tp_M → Option (tp_M)) (hrec_67 : ∀ (x3' : Int) (M' : tp_M), tp_J i_X1_findPoints (tp_rm 3) G 0 0 o_X1_findPoints tp_NC (tp_st M') 0 0 [some (.inr (.inr 278)), some (.inr (.inr x1)), some (.inl x2), some (.inl (x3')), none] 67 [] (rec_67 x3' M')) (x3 : Int) (M0 : tp_M) : tp_J i_X1_findPoints (tp_rm 3) G 0 0 o_X1_findPoints tp_NC (tp_st M0) 0 0 [some (.inr (.inr 278)), some (.inr (.inr x1)), some (.inl x2), some (.inl x3), none] 67 [] (f_X1_findPoints_67B x1 x2 rec_67 x3 M0) := by
  unfold f_X1_findPoints_67B
  refine j_iload_n rfl d_X1_findPoints_67 rfl ?_
  refine j_if_lt (tgt := 110) d_X1_findPoints_68 (by decide) (fun h9 => ?_) (fun h9 => ?_)
  · exact j_vret d_X1_findPoints_110 rfl rfl ⟨rfl, rfl⟩
  · refine j_aload_n rfl d_X1_findPoints_71 rfl ?_
    refine j_aload_n rfl d_X1_findPoints_72 rfl ?_
    refine j_iload_n rfl d_X1_findPoints_73 rfl ?_
    refine j_bind (fun r10 h11 => ?_)
    refine j_callV (y := y_X1_findHead) (I' := i_X1_findHead) (avs := [.inr (.inr x1), .inl x3]) (c := 278) (st := []) (c_X1_findHead G x1 x3 M0 r10 h11) cs_Grower_224 wd_723 wd_725 ws_24 tg_278 rfl rfl rfl (Nat.le_of_ble_eq_true rfl) ⟨rfl, rfl⟩ ⟨by decide, by decide⟩ ⟨by decide, by decide⟩ d_X1_findPoints_74 ?_
    refine j_istore (lv' := [some (.inr (.inr 278)), some (.inr (.inr x1)), some (.inl x2), some (.inl x3), some (.inl r10.1)]) d_X1_findPoints_77 (Nat.le_of_ble_eq_true rfl) rfl ?_
    refine j_iload d_X1_findPoints_79 rfl ?_
    refine j_if_ge (tgt := 87) d_X1_findPoints_81 (by decide) (fun h12 => ?_) (fun h12 => ?_)
    · refine j_aload_n rfl d_X1_findPoints_87 rfl ?_
      refine j_getr fl_Grower_228 hg_x1 (fam_2_9 _ hg_x1).1 d_X1_findPoints_88 ?_
      refine j_iload_n rfl d_X1_findPoints_91 rfl ?_
      refine j_iload d_X1_findPoints_92 rfl ?_
      refine j_iload_n rfl d_X1_findPoints_94 rfl ?_
      refine j_iload_n rfl d_X1_findPoints_95 rfl ?_
      refine j_imul d_X1_findPoints_96 ?_
      refine j_iadd d_X1_findPoints_97 ?_
      refine j_iast ((fam_2_9 _ hg_x1).2.1) ((fam_2_9 _ hg_x1).2.2) d_X1_findPoints_98 (fun M13 hM13 => ?_)
      refine j_aload_n rfl d_X1_findPoints_99 rfl ?_
      refine j_iload_n rfl d_X1_findPoints_100 rfl ?_
      refine j_put (z := 0) (v := x3) fl_Grower_159 (by decide) hg_x1 (pf_2_4 _) pt_2 d_X1_findPoints_101 (fun M14 hM14 => ?_)
      exact j_wk [true, true, true, true, false] rfl rfl (T_X1_findPoints_104 G rec_67 x1 x2 x3 M14 hrec_67 hg_x1)
    · refine j_goto (tgt := 104) d_X1_findPoints_84 (by decide) ?_
      exact j_wk [true, true, true, true, false] rfl rfl (T_X1_findPoints_104 G rec_67 x1 x2 x3 r10.2 hrec_67 hg_x1)
def f_X1_findPoints_67 (x1 : Int) (x2 : Int) (x3 : Int) (M0 : tp_M) : Option (tp_M) := tp_lp (σ := Int × tp_M) (fun rec_ u => f_X1_findPoints_67B x1 x2 (fun x3' M0' => rec_ (x3', M0')) u.1 u.2) tp_N (x3, M0)
set_option maxHeartbeats 4000000 in
set_option maxRecDepth 100000 in
theorem T_X1_findPoints_67 (G : tp_G) (x1 : Int) (x2 : Int) (x3 : Int) (M0 : tp_M) (hg_x1 : tp_tg x1 = 2) : tp_J i_X1_findPoints (tp_rm 3) G 0 0 o_X1_findPoints tp_NC (tp_st M0) 0 0 [some (.inr (.inr 278)), some (.inr (.inr x1)), some (.inl x2), some (.inl x3), none] 67 [] (f_X1_findPoints_67 x1 x2 x3 M0) := by
  unfold f_X1_findPoints_67
  exact j_lp (σ := Int × tp_M) (n' := fun _ => tp_NC) (g' := fun u => tp_st u.2) (k' := fun _ => 0) (q' := fun _ => 0) (lv' := fun u => [some (.inr (.inr 278)), some (.inr (.inr x1)), some (.inl x2), some (.inl u.1), none]) (fun rec_ hrec u => T_X1_findPoints_67B G x1 x2 hg_x1 (fun x3' M0' => rec_ (x3', M0')) (fun x3' M0' => hrec (x3', M0')) u.1 u.2) tp_N (x3, M0)
def f_X1_findPoints_7B (x1 : Int) (rec_7 : Int → tp_M → Option (tp_M)) (x2 : Int) (M0 : tp_M) : Option (tp_M) :=
  if 9 ≤ x2 then
    (f_X5_lift (M0 x1 0) M0).bind fun r5 =>
    tp_mp (tp_up M0 x1 4 (M0 x1 1)) fun M7 =>
    tp_lt ((min (M7 x1 1) 8)) fun y8 =>
    f_X1_findPoints_67 x1 r5 y8 M7
  else
    (f_X5_valueOfPlace x2 (M0 x1 0) M0).bind fun r16 =>
    if 0 ≤ x2 ∧ x2 < 9 then
      tp_mp (tp_up M0 307 x2 r16) fun M18 =>
      tp_lt (tp_w (x2 + 1)) fun y19 =>
      rec_7 y19 M18 else none
set_option maxHeartbeats 4000000 in
set_option maxRecDepth 100000 in
theorem T_X1_findPoints_7B (G : tp_G) (x1 : Int) (hg_x1 : tp_tg x1 = 2) (rec_7 : Int → tp_M → Option (tp_M)) (hrec_7 : ∀ (x2' : Int) (M' : tp_M), tp_J i_X1_findPoints (tp_rm 3) G 0 0 o_X1_findPoints tp_NC (tp_st M') 0 0 [some (.inr (.inr 278)), some (.inr (.inr x1)), some (.inl (x2')), none, none] 7 [] (rec_7 x2' M')) (x2 : Int) (M0 : tp_M) : tp_J i_X1_findPoints (tp_rm 3) G 0 0 o_X1_findPoints tp_NC (tp_st M0) 0 0 [some (.inr (.inr 278)), some (.inr (.inr x1)), some (.inl x2), none, none] 7 [] (f_X1_findPoints_7B x1 rec_7 x2 M0) := by
  unfold f_X1_findPoints_7B
  refine j_iload_n rfl d_X1_findPoints_7 rfl ?_
  refine j_bipush ⟨by decide, by decide⟩ (by decide +kernel) d_X1_findPoints_8 ?_
  refine j_icmp_ge (tgt := 37) d_X1_findPoints_10 (by decide) (fun h4 => ?_) (fun h4 => ?_)
  · refine j_aload_n rfl d_X1_findPoints_37 rfl ?_
    refine j_getr fl_Grower_12 tg_278 rv_278_2 d_X1_findPoints_38 ?_
    refine j_aload_n rfl d_X1_findPoints_41 rfl ?_
    refine j_geti fl_Grower_177 hg_x1 d_X1_findPoints_42 ?_
    refine j_bind (fun r5 h6 => ?_)
    refine j_callV (y := y_X5_lift) (I' := i_X5_lift) (avs := [.inl (M0 x1 0)]) (c := 279) (st := []) (c_X5_lift G (M0 x1 0) M0 r5 h6) cs_Grower_212 wd_719 wd_720 wd_721 tg_279 rfl rfl rfl (Nat.le_of_ble_eq_true rfl) ⟨rfl, rfl⟩ ⟨by decide, by decide⟩ ⟨by decide, by decide⟩ d_X1_findPoints_45 ?_
    refine j_istore_n (lv' := [some (.inr (.inr 278)), some (.inr (.inr x1)), some (.inl r5), none, none]) rfl d_X1_findPoints_48 (Nat.le_of_ble_eq_true rfl) rfl ?_
    refine j_aload_n rfl d_X1_findPoints_49 rfl ?_
    refine j_aload_n rfl d_X1_findPoints_50 rfl ?_
    refine j_geti fl_Grower_216 hg_x1 d_X1_findPoints_51 ?_
    refine j_put (z := 0) (v := (M0 x1 1)) fl_Grower_159 (by decide) hg_x1 (pf_2_4 _) pt_2 d_X1_findPoints_54 (fun M7 hM7 => ?_)
    refine j_aload_n rfl d_X1_findPoints_57 rfl ?_
    refine j_geti fl_Grower_216 hg_x1 d_X1_findPoints_58 ?_
    refine j_bipush ⟨by decide, by decide⟩ (by decide +kernel) d_X1_findPoints_61 ?_
    refine j_mmin wd_708 wd_482 wd_13 wd_483 ⟨(by decide : 1 ≤ ((tp_rm 3) : Room).frames), (by decide : 40 ≤ ((tp_rm 3) : Room).locals)⟩ ⟨by decide, by decide⟩ (Nat.le_of_ble_eq_true rfl) d_X1_findPoints_63 ?_
    refine j_nmI (fun y8 hy8 => ?_)
    refine j_istore_n (lv' := [some (.inr (.inr 278)), some (.inr (.inr x1)), some (.inl r5), some (.inl y8), none]) rfl d_X1_findPoints_66 (Nat.le_of_ble_eq_true rfl) rfl ?_
    exact j_wk [true, true, true, true, false] rfl rfl (T_X1_findPoints_67 G x1 r5 y8 M7 hg_x1)
  · refine j_aload_n rfl d_X1_findPoints_13 rfl ?_
    refine j_getr fl_Grower_37 tg_278 rv_278_8 d_X1_findPoints_14 ?_
    refine j_iload_n rfl d_X1_findPoints_17 rfl ?_
    refine j_aload_n rfl d_X1_findPoints_18 rfl ?_
    refine j_getr fl_Grower_12 tg_278 rv_278_2 d_X1_findPoints_19 ?_
    refine j_iload_n rfl d_X1_findPoints_22 rfl ?_
    refine j_aload_n rfl d_X1_findPoints_23 rfl ?_
    refine j_geti fl_Grower_177 hg_x1 d_X1_findPoints_24 ?_
    refine j_bind (fun r16 h17 => ?_)
    refine j_callV (y := y_X5_valueOfPlace) (I' := i_X5_valueOfPlace) (avs := [.inl x2, .inl (M0 x1 0)]) (c := 279) (st := [.inl x2, .inr (.inr 307)]) (c_X5_valueOfPlace G x2 (M0 x1 0) M0 r16 h17) cs_Grower_209 wd_709 wd_710 wd_711 tg_279 rfl rfl rfl (Nat.le_of_ble_eq_true rfl) ⟨rfl, rfl⟩ ⟨by decide, by decide⟩ ⟨by decide, by decide⟩ d_X1_findPoints_27 ?_
    refine j_iast tg_307 al_307 d_X1_findPoints_30 (fun M18 hM18 => ?_)
    refine j_iincN (lv' := fun y19 => [some (.inr (.inr 278)), some (.inr (.inr x1)), some (.inl y19), none, none]) d_X1_findPoints_31 rfl (Nat.le_of_ble_eq_true rfl) (fun _ => rfl) (fun y19 hy19 => ?_)
    refine j_goto (tgt := 7) d_X1_findPoints_34 (by decide) ?_
    exact j_wk [true, true, true, false, false] rfl rfl (hrec_7 y19 M18)
def f_X1_findPoints_7 (x1 : Int) (x2 : Int) (M0 : tp_M) : Option (tp_M) := tp_lp (σ := Int × tp_M) (fun rec_ u => f_X1_findPoints_7B x1 (fun x2' M0' => rec_ (x2', M0')) u.1 u.2) tp_N (x2, M0)
set_option maxHeartbeats 4000000 in
set_option maxRecDepth 100000 in
theorem T_X1_findPoints_7 (G : tp_G) (x1 : Int) (x2 : Int) (M0 : tp_M) (hg_x1 : tp_tg x1 = 2) : tp_J i_X1_findPoints (tp_rm 3) G 0 0 o_X1_findPoints tp_NC (tp_st M0) 0 0 [some (.inr (.inr 278)), some (.inr (.inr x1)), some (.inl x2), none, none] 7 [] (f_X1_findPoints_7 x1 x2 M0) := by
  unfold f_X1_findPoints_7
  exact j_lp (σ := Int × tp_M) (n' := fun _ => tp_NC) (g' := fun u => tp_st u.2) (k' := fun _ => 0) (q' := fun _ => 0) (lv' := fun u => [some (.inr (.inr 278)), some (.inr (.inr x1)), some (.inl u.1), none, none]) (fun rec_ hrec u => T_X1_findPoints_7B G x1 hg_x1 (fun x2' M0' => rec_ (x2', M0')) (fun x2' M0' => hrec (x2', M0')) u.1 u.2) tp_N (x2, M0)
def f_X1_findPoints (a0 : Int) (M0 : tp_M) : Option (tp_M) :=
  if tp_tg a0 = 2 then
    (f_X1_expandParts a0 M0).bind fun r2 =>
    f_X1_findPoints_7 a0 0 r2 else none
set_option maxHeartbeats 4000000 in
set_option maxRecDepth 100000 in
theorem T_X1_findPoints (G : tp_G) (a0 : Int) (M0 : tp_M) : tp_J i_X1_findPoints (tp_rm 3) G 0 0 o_X1_findPoints tp_NC (tp_st M0) 0 0 [some (.inr (.inr 278)), some (.inr (.inr a0)), none, none, none] 0 [] (f_X1_findPoints a0 M0) := by
  unfold f_X1_findPoints
  refine tp_chk (fun ht1 => ?_)
  refine j_aload_n rfl d_X1_findPoints_0 rfl ?_
  refine j_aload_n rfl d_X1_findPoints_1 rfl ?_
  refine j_bind (fun r2 h3 => ?_)
  refine j_callV (y := y_X1_expandParts) (I' := i_X1_expandParts) (avs := [.inr (.inr a0)]) (c := 278) (st := []) (c_X1_expandParts G a0 M0 r2 h3) cs_Grower_206 wd_702 wd_704 ws_23 tg_278 rfl rfl rfl (Nat.le_of_ble_eq_true rfl) ⟨rfl, rfl⟩ ⟨by decide, by decide⟩ ⟨by decide, by decide⟩ d_X1_findPoints_2 ?_
  refine j_iconst ⟨by decide, by decide⟩ d_X1_findPoints_5 ?_
  refine j_istore_n (lv' := [some (.inr (.inr 278)), some (.inr (.inr a0)), some (.inl 0), none, none]) rfl d_X1_findPoints_6 (Nat.le_of_ble_eq_true rfl) rfl ?_
  exact j_wk [true, true, true, false, false] rfl rfl (T_X1_findPoints_7 G a0 0 r2 ht1)
set_option maxHeartbeats 4000000 in
set_option maxRecDepth 100000 in
theorem c_X1_findPoints (G : tp_G) (a0 : Int) (M0 : tp_M) (r : tp_M) (h : f_X1_findPoints a0 M0 = some r) (l : Launch) : Met l y_X1_findPoints (tp_ws y_X1_findPoints i_X1_findPoints) (tp_rm 3) (tp_Pc G [.inr (.inr 278), .inr (.inr a0)] tp_NC (tp_st M0)) (tp_Q G (o_X1_findPoints r)) 0 0 (tp_A G) :=
  tp_met (I := i_X1_findPoints) (y := y_X1_findPoints) (by decide +kernel) (Eq.refl "TypesAtPrime$Grower") (Eq.refl "findPoints") (lv := [some (.inr (.inr 278)), some (.inr (.inr a0)), none, none, none]) rfl (Nat.le_of_ble_eq_true rfl) (T_X1_findPoints G a0 M0) h l
def y_X1_leastPoint : MethodName := ⟨"TypesAtPrime$Grower", "leastPoint", "(LTypesAtPrime$Knot;)I"⟩
abbrev i_X1_leastPoint : tp_I := (prog_3_method_12_code, "TypesAtPrime$Grower", (some .int), 3, "leastPoint")
abbrev o_X1_leastPoint (M : tp_M) : Int → tp_O := fun r => (some (.inl r), tp_NC, tp_st M)
theorem d_X1_leastPoint_0 : decode prog_3_method_12_code 0 = .ok (.iconst (-1), 1) := by decide +kernel
theorem d_X1_leastPoint_1 : decode prog_3_method_12_code 1 = .ok (.istore_n 1, 1) := by decide +kernel
theorem d_X1_leastPoint_2 : decode prog_3_method_12_code 2 = .ok (.iconst 0, 1) := by decide +kernel
theorem d_X1_leastPoint_3 : decode prog_3_method_12_code 3 = .ok (.istore_n 2, 1) := by decide +kernel
theorem d_X1_leastPoint_4 : decode prog_3_method_12_code 4 = .ok (.iload_n 2, 1) := by decide +kernel
theorem d_X1_leastPoint_5 : decode prog_3_method_12_code 5 = .ok (.bipush 9, 2) := by decide +kernel
theorem d_X1_leastPoint_7 : decode prog_3_method_12_code 7 = .ok (.if_icmp .ge 39, 3) := by decide +kernel
theorem d_X1_leastPoint_10 : decode prog_3_method_12_code 10 = .ok (.aload_n 0, 1) := by decide +kernel
theorem d_X1_leastPoint_11 : decode prog_3_method_12_code 11 = .ok (.getfield 228, 3) := by decide +kernel
theorem d_X1_leastPoint_14 : decode prog_3_method_12_code 14 = .ok (.iload_n 2, 1) := by decide +kernel
theorem d_X1_leastPoint_15 : decode prog_3_method_12_code 15 = .ok (.iaload, 1) := by decide +kernel
theorem d_X1_leastPoint_16 : decode prog_3_method_12_code 16 = .ok (.ifCond .lt 24, 3) := by decide +kernel
theorem d_X1_leastPoint_19 : decode prog_3_method_12_code 19 = .ok (.iload_n 1, 1) := by decide +kernel
theorem d_X1_leastPoint_20 : decode prog_3_method_12_code 20 = .ok (.ifCond .lt 18, 3) := by decide +kernel
theorem d_X1_leastPoint_23 : decode prog_3_method_12_code 23 = .ok (.aload_n 0, 1) := by decide +kernel
theorem d_X1_leastPoint_24 : decode prog_3_method_12_code 24 = .ok (.getfield 228, 3) := by decide +kernel
theorem d_X1_leastPoint_27 : decode prog_3_method_12_code 27 = .ok (.iload_n 2, 1) := by decide +kernel
theorem d_X1_leastPoint_28 : decode prog_3_method_12_code 28 = .ok (.iaload, 1) := by decide +kernel
theorem d_X1_leastPoint_29 : decode prog_3_method_12_code 29 = .ok (.aload_n 0, 1) := by decide +kernel
theorem d_X1_leastPoint_30 : decode prog_3_method_12_code 30 = .ok (.getfield 228, 3) := by decide +kernel
theorem d_X1_leastPoint_33 : decode prog_3_method_12_code 33 = .ok (.iload_n 1, 1) := by decide +kernel
theorem d_X1_leastPoint_34 : decode prog_3_method_12_code 34 = .ok (.iaload, 1) := by decide +kernel
theorem d_X1_leastPoint_35 : decode prog_3_method_12_code 35 = .ok (.if_icmp .ge 5, 3) := by decide +kernel
theorem d_X1_leastPoint_38 : decode prog_3_method_12_code 38 = .ok (.iload_n 2, 1) := by decide +kernel
theorem d_X1_leastPoint_39 : decode prog_3_method_12_code 39 = .ok (.istore_n 1, 1) := by decide +kernel
theorem d_X1_leastPoint_40 : decode prog_3_method_12_code 40 = .ok (.iinc 2 1, 3) := by decide +kernel
theorem d_X1_leastPoint_43 : decode prog_3_method_12_code 43 = .ok (.goto (-39), 3) := by decide +kernel
theorem d_X1_leastPoint_46 : decode prog_3_method_12_code 46 = .ok (.iload_n 1, 1) := by decide +kernel
theorem d_X1_leastPoint_47 : decode prog_3_method_12_code 47 = .ok (.ireturn, 1) := by decide +kernel
def f_X1_leastPoint_40 (rec_4 : Int → Int → Option (Int)) (x0 : Int) (x1 : Int) (x2 : Int) (M0 : tp_M) : Option (Int) :=
  tp_lt (tp_w (x2 + 1)) fun y4 =>
  rec_4 x1 y4
set_option maxHeartbeats 4000000 in
set_option maxRecDepth 100000 in
theorem T_X1_leastPoint_40 (G : tp_G) (rec_4 : Int → Int → Option (Int)) (x0 : Int) (x1 : Int) (x2 : Int) (M0 : tp_M) (hrec_4 : ∀ (x1' x2' : Int), tp_J i_X1_leastPoint (tp_rm 0) G 0 0 (o_X1_leastPoint M0) tp_NC (tp_st M0) 0 0 [some (.inr (.inr x0)), some (.inl (x1')), some (.inl (x2'))] 4 [] (rec_4 x1' x2')) (hg_x0 : tp_tg x0 = 2) : tp_J i_X1_leastPoint (tp_rm 0) G 0 0 (o_X1_leastPoint M0) tp_NC (tp_st M0) 0 0 [some (.inr (.inr x0)), some (.inl x1), some (.inl x2)] 40 [] (f_X1_leastPoint_40 rec_4 x0 x1 x2 M0) := by
  unfold f_X1_leastPoint_40
  refine j_iincN (lv' := fun y4 => [some (.inr (.inr x0)), some (.inl x1), some (.inl y4)]) d_X1_leastPoint_40 rfl (Nat.le_of_ble_eq_true rfl) (fun _ => rfl) (fun y4 hy4 => ?_)
  refine j_goto (tgt := 4) d_X1_leastPoint_43 (by decide) ?_
  exact j_wk [true, true, true] rfl rfl (hrec_4 x1 y4)
def f_X1_leastPoint_38 (rec_4 : Int → Int → Option (Int)) (x0 : Int) (x2 : Int) (M0 : tp_M) : Option (Int) :=
  f_X1_leastPoint_40 rec_4 x0 x2 x2 M0
set_option maxHeartbeats 4000000 in
set_option maxRecDepth 100000 in
theorem T_X1_leastPoint_38 (G : tp_G) (rec_4 : Int → Int → Option (Int)) (x0 : Int) (x2 : Int) (M0 : tp_M) (hrec_4 : ∀ (x1' x2' : Int), tp_J i_X1_leastPoint (tp_rm 0) G 0 0 (o_X1_leastPoint M0) tp_NC (tp_st M0) 0 0 [some (.inr (.inr x0)), some (.inl (x1')), some (.inl (x2'))] 4 [] (rec_4 x1' x2')) (hg_x0 : tp_tg x0 = 2) : tp_J i_X1_leastPoint (tp_rm 0) G 0 0 (o_X1_leastPoint M0) tp_NC (tp_st M0) 0 0 [some (.inr (.inr x0)), none, some (.inl x2)] 38 [] (f_X1_leastPoint_38 rec_4 x0 x2 M0) := by
  unfold f_X1_leastPoint_38
  refine j_iload_n rfl d_X1_leastPoint_38 rfl ?_
  refine j_istore_n (lv' := [some (.inr (.inr x0)), some (.inl x2), some (.inl x2)]) rfl d_X1_leastPoint_39 (Nat.le_of_ble_eq_true rfl) rfl ?_
  exact j_wk [true, true, true] rfl rfl (T_X1_leastPoint_40 G rec_4 x0 x2 x2 M0 hrec_4 hg_x0)
def f_X1_leastPoint_4B (x0 : Int) (M0 : tp_M) (rec_4 : Int → Int → Option (Int)) (x1 : Int) (x2 : Int) : Option (Int) :=
  if 9 ≤ x2 then
    some x1
  else
    if 0 ≤ x2 ∧ x2 < 9 then
      if (M0 (x0 + 2) x2) < 0 then
        f_X1_leastPoint_40 rec_4 x0 x1 x2 M0
      else
        if x1 < 0 then
          f_X1_leastPoint_38 rec_4 x0 x2 M0
        else
          if 0 ≤ x2 ∧ x2 < 9 then
            if 0 ≤ x1 ∧ x1 < 9 then
              if (M0 (x0 + 2) x1) ≤ (M0 (x0 + 2) x2) then
                f_X1_leastPoint_40 rec_4 x0 x1 x2 M0
              else
                f_X1_leastPoint_38 rec_4 x0 x2 M0 else none else none else none
set_option maxHeartbeats 4000000 in
set_option maxRecDepth 100000 in
theorem T_X1_leastPoint_4B (G : tp_G) (x0 : Int) (M0 : tp_M) (hg_x0 : tp_tg x0 = 2) (rec_4 : Int → Int → Option (Int)) (hrec_4 : ∀ (x1' x2' : Int), tp_J i_X1_leastPoint (tp_rm 0) G 0 0 (o_X1_leastPoint M0) tp_NC (tp_st M0) 0 0 [some (.inr (.inr x0)), some (.inl (x1')), some (.inl (x2'))] 4 [] (rec_4 x1' x2')) (x1 : Int) (x2 : Int) : tp_J i_X1_leastPoint (tp_rm 0) G 0 0 (o_X1_leastPoint M0) tp_NC (tp_st M0) 0 0 [some (.inr (.inr x0)), some (.inl x1), some (.inl x2)] 4 [] (f_X1_leastPoint_4B x0 M0 rec_4 x1 x2) := by
  unfold f_X1_leastPoint_4B
  refine j_iload_n rfl d_X1_leastPoint_4 rfl ?_
  refine j_bipush ⟨by decide, by decide⟩ (by decide +kernel) d_X1_leastPoint_5 ?_
  refine j_icmp_ge (tgt := 46) d_X1_leastPoint_7 (by decide) (fun h2 => ?_) (fun h2 => ?_)
  · refine j_iload_n rfl d_X1_leastPoint_46 rfl ?_
    exact j_iret d_X1_leastPoint_47 rfl rfl ⟨rfl, rfl⟩
  · refine j_aload_n rfl d_X1_leastPoint_10 rfl ?_
    refine j_getr fl_Grower_228 hg_x0 (fam_2_9 _ hg_x0).1 d_X1_leastPoint_11 ?_
    refine j_iload_n rfl d_X1_leastPoint_14 rfl ?_
    refine j_iald ((fam_2_9 _ hg_x0).2.1) ((fam_2_9 _ hg_x0).2.2) d_X1_leastPoint_15 ?_
    refine j_if_lt (tgt := 40) d_X1_leastPoint_16 (by decide) (fun h3 => ?_) (fun h3 => ?_)
    · exact j_wk [true, true, true] rfl rfl (T_X1_leastPoint_40 G rec_4 x0 x1 x2 M0 hrec_4 hg_x0)
    · refine j_iload_n rfl d_X1_leastPoint_19 rfl ?_
      refine j_if_lt (tgt := 38) d_X1_leastPoint_20 (by decide) (fun h5 => ?_) (fun h5 => ?_)
      · exact j_wk [true, false, true] rfl rfl (T_X1_leastPoint_38 G rec_4 x0 x2 M0 hrec_4 hg_x0)
      · refine j_aload_n rfl d_X1_leastPoint_23 rfl ?_
        refine j_getr fl_Grower_228 hg_x0 (fam_2_9 _ hg_x0).1 d_X1_leastPoint_24 ?_
        refine j_iload_n rfl d_X1_leastPoint_27 rfl ?_
        refine j_iald ((fam_2_9 _ hg_x0).2.1) ((fam_2_9 _ hg_x0).2.2) d_X1_leastPoint_28 ?_
        refine j_aload_n rfl d_X1_leastPoint_29 rfl ?_
        refine j_getr fl_Grower_228 hg_x0 (fam_2_9 _ hg_x0).1 d_X1_leastPoint_30 ?_
        refine j_iload_n rfl d_X1_leastPoint_33 rfl ?_
        refine j_iald ((fam_2_9 _ hg_x0).2.1) ((fam_2_9 _ hg_x0).2.2) d_X1_leastPoint_34 ?_
        refine j_icmp_ge (tgt := 40) d_X1_leastPoint_35 (by decide) (fun h6 => ?_) (fun h6 => ?_)
        · exact j_wk [true, true, true] rfl rfl (T_X1_leastPoint_40 G rec_4 x0 x1 x2 M0 hrec_4 hg_x0)
        · exact j_wk [true, false, true] rfl rfl (T_X1_leastPoint_38 G rec_4 x0 x2 M0 hrec_4 hg_x0)
def f_X1_leastPoint_4 (x0 : Int) (x1 : Int) (x2 : Int) (M0 : tp_M) : Option (Int) := tp_lp (σ := Int × Int) (fun rec_ u => f_X1_leastPoint_4B x0 M0 (fun x1' x2' => rec_ (x1', x2')) u.1 u.2) tp_N (x1, x2)
set_option maxHeartbeats 4000000 in
set_option maxRecDepth 100000 in
theorem T_X1_leastPoint_4 (G : tp_G) (x0 : Int) (x1 : Int) (x2 : Int) (M0 : tp_M) (hg_x0 : tp_tg x0 = 2) : tp_J i_X1_leastPoint (tp_rm 0) G 0 0 (o_X1_leastPoint M0) tp_NC (tp_st M0) 0 0 [some (.inr (.inr x0)), some (.inl x1), some (.inl x2)] 4 [] (f_X1_leastPoint_4 x0 x1 x2 M0) := by
  unfold f_X1_leastPoint_4
  exact j_lp (σ := Int × Int) (n' := fun _ => tp_NC) (g' := fun u => tp_st M0) (k' := fun _ => 0) (q' := fun _ => 0) (lv' := fun u => [some (.inr (.inr x0)), some (.inl u.1), some (.inl u.2)]) (fun rec_ hrec u => T_X1_leastPoint_4B G x0 M0 hg_x0 (fun x1' x2' => rec_ (x1', x2')) (fun x1' x2' => hrec (x1', x2')) u.1 u.2) tp_N (x1, x2)
def f_X1_leastPoint (a0 : Int) (M0 : tp_M) : Option (Int) :=
  if tp_tg a0 = 2 then
    f_X1_leastPoint_4 a0 (-1) 0 M0 else none
set_option maxHeartbeats 4000000 in
set_option maxRecDepth 100000 in
theorem T_X1_leastPoint (G : tp_G) (a0 : Int) (M0 : tp_M) : tp_J i_X1_leastPoint (tp_rm 0) G 0 0 (o_X1_leastPoint M0) tp_NC (tp_st M0) 0 0 [some (.inr (.inr a0)), none, none] 0 [] (f_X1_leastPoint a0 M0) := by
  unfold f_X1_leastPoint
  refine tp_chk (fun ht1 => ?_)
  refine j_iconst ⟨by decide, by decide⟩ d_X1_leastPoint_0 ?_
  refine j_istore_n (lv' := [some (.inr (.inr a0)), some (.inl (-1)), none]) rfl d_X1_leastPoint_1 (Nat.le_of_ble_eq_true rfl) rfl ?_
  refine j_iconst ⟨by decide, by decide⟩ d_X1_leastPoint_2 ?_
  refine j_istore_n (lv' := [some (.inr (.inr a0)), some (.inl (-1)), some (.inl 0)]) rfl d_X1_leastPoint_3 (Nat.le_of_ble_eq_true rfl) rfl ?_
  exact j_wk [true, true, true] rfl rfl (T_X1_leastPoint_4 G a0 (-1) 0 M0 ht1)
set_option maxHeartbeats 4000000 in
set_option maxRecDepth 100000 in
theorem c_X1_leastPoint (G : tp_G) (a0 : Int) (M0 : tp_M) (r : Int) (h : f_X1_leastPoint a0 M0 = some r) (l : Launch) : Met l y_X1_leastPoint (tp_ws y_X1_leastPoint i_X1_leastPoint) (tp_rm 0) (tp_Pc G [.inr (.inr a0)] tp_NC (tp_st M0)) (tp_Q G ((o_X1_leastPoint M0) r)) 0 0 (tp_A G) :=
  tp_met (I := i_X1_leastPoint) (y := y_X1_leastPoint) (by decide +kernel) (Eq.refl "TypesAtPrime$Grower") (Eq.refl "leastPoint") (lv := [some (.inr (.inr a0)), none, none]) rfl (Nat.le_of_ble_eq_true rfl) (T_X1_leastPoint G a0 M0) h l
def y_X10_liesBelow : MethodName := ⟨"TypesAtPrime", "liesBelow", "([IIII)Z"⟩
abbrev i_X10_liesBelow : tp_I := (prog_1_method_48_code, "TypesAtPrime", (some .boolean), 8, "liesBelow")
abbrev o_X10_liesBelow (M : tp_M) : Int → tp_O := fun r => (some (.inl r), tp_NC, tp_st M)
theorem d_X10_liesBelow_0 : decode prog_1_method_48_code 0 = .ok (.aload_n 0, 1) := by decide +kernel
theorem d_X10_liesBelow_1 : decode prog_1_method_48_code 1 = .ok (.iload_n 2, 1) := by decide +kernel
theorem d_X10_liesBelow_2 : decode prog_1_method_48_code 2 = .ok (.iaload, 1) := by decide +kernel
theorem d_X10_liesBelow_3 : decode prog_1_method_48_code 3 = .ok (.i2l, 1) := by decide +kernel
theorem d_X10_liesBelow_4 : decode prog_1_method_48_code 4 = .ok (.aload_n 0, 1) := by decide +kernel
theorem d_X10_liesBelow_5 : decode prog_1_method_48_code 5 = .ok (.iload_n 1, 1) := by decide +kernel
theorem d_X10_liesBelow_6 : decode prog_1_method_48_code 6 = .ok (.iaload, 1) := by decide +kernel
theorem d_X10_liesBelow_7 : decode prog_1_method_48_code 7 = .ok (.i2l, 1) := by decide +kernel
theorem d_X10_liesBelow_8 : decode prog_1_method_48_code 8 = .ok (.lsub, 1) := by decide +kernel
theorem d_X10_liesBelow_9 : decode prog_1_method_48_code 9 = .ok (.lstore 4, 2) := by decide +kernel
theorem d_X10_liesBelow_11 : decode prog_1_method_48_code 11 = .ok (.aload_n 0, 1) := by decide +kernel
theorem d_X10_liesBelow_12 : decode prog_1_method_48_code 12 = .ok (.iload_n 3, 1) := by decide +kernel
theorem d_X10_liesBelow_13 : decode prog_1_method_48_code 13 = .ok (.iaload, 1) := by decide +kernel
theorem d_X10_liesBelow_14 : decode prog_1_method_48_code 14 = .ok (.i2l, 1) := by decide +kernel
theorem d_X10_liesBelow_15 : decode prog_1_method_48_code 15 = .ok (.aload_n 0, 1) := by decide +kernel
theorem d_X10_liesBelow_16 : decode prog_1_method_48_code 16 = .ok (.iload_n 1, 1) := by decide +kernel
theorem d_X10_liesBelow_17 : decode prog_1_method_48_code 17 = .ok (.iaload, 1) := by decide +kernel
theorem d_X10_liesBelow_18 : decode prog_1_method_48_code 18 = .ok (.i2l, 1) := by decide +kernel
theorem d_X10_liesBelow_19 : decode prog_1_method_48_code 19 = .ok (.lsub, 1) := by decide +kernel
theorem d_X10_liesBelow_20 : decode prog_1_method_48_code 20 = .ok (.lstore 6, 2) := by decide +kernel
theorem d_X10_liesBelow_22 : decode prog_1_method_48_code 22 = .ok (.lload 4, 2) := by decide +kernel
theorem d_X10_liesBelow_24 : decode prog_1_method_48_code 24 = .ok (.iload_n 3, 1) := by decide +kernel
theorem d_X10_liesBelow_25 : decode prog_1_method_48_code 25 = .ok (.iload_n 1, 1) := by decide +kernel
theorem d_X10_liesBelow_26 : decode prog_1_method_48_code 26 = .ok (.isub, 1) := by decide +kernel
theorem d_X10_liesBelow_27 : decode prog_1_method_48_code 27 = .ok (.i2l, 1) := by decide +kernel
theorem d_X10_liesBelow_28 : decode prog_1_method_48_code 28 = .ok (.lmul, 1) := by decide +kernel
theorem d_X10_liesBelow_29 : decode prog_1_method_48_code 29 = .ok (.lload 6, 2) := by decide +kernel
theorem d_X10_liesBelow_31 : decode prog_1_method_48_code 31 = .ok (.iload_n 2, 1) := by decide +kernel
theorem d_X10_liesBelow_32 : decode prog_1_method_48_code 32 = .ok (.iload_n 1, 1) := by decide +kernel
theorem d_X10_liesBelow_33 : decode prog_1_method_48_code 33 = .ok (.isub, 1) := by decide +kernel
theorem d_X10_liesBelow_34 : decode prog_1_method_48_code 34 = .ok (.i2l, 1) := by decide +kernel
theorem d_X10_liesBelow_35 : decode prog_1_method_48_code 35 = .ok (.lmul, 1) := by decide +kernel
theorem d_X10_liesBelow_36 : decode prog_1_method_48_code 36 = .ok (.lcmp, 1) := by decide +kernel
theorem d_X10_liesBelow_37 : decode prog_1_method_48_code 37 = .ok (.ifCond .ge 7, 3) := by decide +kernel
theorem d_X10_liesBelow_40 : decode prog_1_method_48_code 40 = .ok (.iconst 1, 1) := by decide +kernel
theorem d_X10_liesBelow_41 : decode prog_1_method_48_code 41 = .ok (.goto 4, 3) := by decide +kernel
theorem d_X10_liesBelow_44 : decode prog_1_method_48_code 44 = .ok (.iconst 0, 1) := by decide +kernel
theorem d_X10_liesBelow_45 : decode prog_1_method_48_code 45 = .ok (.ireturn, 1) := by decide +kernel
def f_X10_liesBelow (a0 : Int) (a1 : Int) (a2 : Int) (a3 : Int) (M0 : tp_M) : Option (Int) :=
  if tp_tg a0 = 21 then
    if 0 ≤ a2 ∧ a2 < tp_al a0 then
      if 0 ≤ a1 ∧ a1 < tp_al a0 then
        tp_lt ((tp_wl ((M0 a0 a2) - (M0 a0 a1)))) fun y2 =>
        if 0 ≤ a3 ∧ a3 < tp_al a0 then
          if 0 ≤ a1 ∧ a1 < tp_al a0 then
            tp_lt ((tp_wl ((M0 a0 a3) - (M0 a0 a1)))) fun y3 =>
            if (tp_wl (y3 * (tp_w (a2 - a1)))) ≤ (tp_wl (y2 * (tp_w (a3 - a1)))) then
              some 0
            else
              some 1 else none else none else none else none else none
set_option maxHeartbeats 4000000 in
set_option maxRecDepth 100000 in
theorem T_X10_liesBelow (G : tp_G) (a0 : Int) (a1 : Int) (a2 : Int) (a3 : Int) (M0 : tp_M) : tp_J i_X10_liesBelow (tp_rm 0) G 0 0 (o_X10_liesBelow M0) tp_NC (tp_st M0) 0 0 [some (.inr (.inr a0)), some (.inl a1), some (.inl a2), some (.inl a3), none, none, none, none] 0 [] (f_X10_liesBelow a0 a1 a2 a3 M0) := by
  unfold f_X10_liesBelow
  refine tp_chk (fun ht1 => ?_)
  refine j_aload_n rfl d_X10_liesBelow_0 rfl ?_
  refine j_iload_n rfl d_X10_liesBelow_1 rfl ?_
  refine j_iald ht1 rfl d_X10_liesBelow_2 ?_
  refine j_i2l d_X10_liesBelow_3 ?_
  refine j_aload_n rfl d_X10_liesBelow_4 rfl ?_
  refine j_iload_n rfl d_X10_liesBelow_5 rfl ?_
  refine j_iald ht1 rfl d_X10_liesBelow_6 ?_
  refine j_i2l d_X10_liesBelow_7 ?_
  refine j_lsub d_X10_liesBelow_8 ?_
  refine j_nmL (fun y2 hy2 => ?_)
  refine j_lstore (lv' := [some (.inr (.inr a0)), some (.inl a1), some (.inl a2), some (.inl a3), some (.inr (.inl y2)), none, none, none]) d_X10_liesBelow_9 (Nat.le_of_ble_eq_true rfl) rfl ?_
  refine j_aload_n rfl d_X10_liesBelow_11 rfl ?_
  refine j_iload_n rfl d_X10_liesBelow_12 rfl ?_
  refine j_iald ht1 rfl d_X10_liesBelow_13 ?_
  refine j_i2l d_X10_liesBelow_14 ?_
  refine j_aload_n rfl d_X10_liesBelow_15 rfl ?_
  refine j_iload_n rfl d_X10_liesBelow_16 rfl ?_
  refine j_iald ht1 rfl d_X10_liesBelow_17 ?_
  refine j_i2l d_X10_liesBelow_18 ?_
  refine j_lsub d_X10_liesBelow_19 ?_
  refine j_nmL (fun y3 hy3 => ?_)
  refine j_lstore (lv' := [some (.inr (.inr a0)), some (.inl a1), some (.inl a2), some (.inl a3), some (.inr (.inl y2)), none, some (.inr (.inl y3)), none]) d_X10_liesBelow_20 (Nat.le_of_ble_eq_true rfl) rfl ?_
  refine j_lload d_X10_liesBelow_22 rfl ?_
  refine j_iload_n rfl d_X10_liesBelow_24 rfl ?_
  refine j_iload_n rfl d_X10_liesBelow_25 rfl ?_
  refine j_isub d_X10_liesBelow_26 ?_
  refine j_i2l d_X10_liesBelow_27 ?_
  refine j_lmul d_X10_liesBelow_28 ?_
  refine j_lload d_X10_liesBelow_29 rfl ?_
  refine j_iload_n rfl d_X10_liesBelow_31 rfl ?_
  refine j_iload_n rfl d_X10_liesBelow_32 rfl ?_
  refine j_isub d_X10_liesBelow_33 ?_
  refine j_i2l d_X10_liesBelow_34 ?_
  refine j_lmul d_X10_liesBelow_35 ?_
  refine j_lcmp_ge (tgt := 44) d_X10_liesBelow_36 rfl d_X10_liesBelow_37 (by decide) (fun h4 => ?_) (fun h4 => ?_)
  · refine j_iconst ⟨by decide, by decide⟩ d_X10_liesBelow_44 ?_
    exact j_zret d_X10_liesBelow_45 rfl (Or.inl rfl) rfl ⟨rfl, rfl⟩
  · refine j_iconst ⟨by decide, by decide⟩ d_X10_liesBelow_40 ?_
    refine j_goto (tgt := 45) d_X10_liesBelow_41 (by decide) ?_
    exact j_zret d_X10_liesBelow_45 rfl (Or.inr rfl) rfl ⟨rfl, rfl⟩
set_option maxHeartbeats 4000000 in
set_option maxRecDepth 100000 in
theorem c_X10_liesBelow (G : tp_G) (a0 : Int) (a1 : Int) (a2 : Int) (a3 : Int) (M0 : tp_M) (r : Int) (h : f_X10_liesBelow a0 a1 a2 a3 M0 = some r) (l : Launch) : Met l y_X10_liesBelow (tp_ws y_X10_liesBelow i_X10_liesBelow) (tp_rm 0) (tp_Pc G [.inr (.inr a0), .inl a1, .inl a2, .inl a3] tp_NC (tp_st M0)) (tp_Q G ((o_X10_liesBelow M0) r)) 0 0 (tp_A G) :=
  tp_met (I := i_X10_liesBelow) (y := y_X10_liesBelow) (by decide +kernel) (Eq.refl "TypesAtPrime") (Eq.refl "liesBelow") (lv := [some (.inr (.inr a0)), some (.inl a1), some (.inl a2), some (.inl a3), none, none, none, none]) rfl (Nat.le_of_ble_eq_true rfl) (T_X10_liesBelow G a0 a1 a2 a3 M0) h l
theorem wd_749 : (.code ⟨"TypesAtPrime", "liesBelow", "([IIII)Z"⟩ prog_1_method_48_code 8 (some .boolean) : Cond) ∈ lw_tbl := List.mem_append_right _ (List.mem_of_getElem? (i := 749) (by decide +kernel))
theorem cs_Main_372 : tp_CS "TypesAtPrime" 372 y_X10_liesBelow i_X10_liesBelow 4 := ⟨wd_749, wd_1, by decide, by decide, by decide +kernel⟩
theorem wd_747 : (.methodLink "TypesAtPrime" 372 ⟨"TypesAtPrime", "liesBelow", "([IIII)Z"⟩ : Cond) ∈ lw_tbl := List.mem_append_right _ (List.mem_of_getElem? (i := 747) (by decide +kernel))
theorem wd_748 : (.static ⟨"TypesAtPrime", "liesBelow", "([IIII)Z"⟩ : Cond) ∈ lw_tbl := List.mem_append_right _ (List.mem_of_getElem? (i := 748) (by decide +kernel))
def y_X10_findCorners : MethodName := ⟨"TypesAtPrime", "findCorners", "([III[I)I"⟩
abbrev i_X10_findCorners : tp_I := (prog_1_method_47_code, "TypesAtPrime", (some .int), 8, "findCorners")
abbrev o_X10_findCorners : Int × tp_M → tp_O := fun r => (some (.inl r.1), tp_NC, tp_st r.2)
theorem d_X10_findCorners_0 : decode prog_1_method_47_code 0 = .ok (.iload_n 1, 1) := by decide +kernel
theorem d_X10_findCorners_1 : decode prog_1_method_47_code 1 = .ok (.ifCond .lt 19, 3) := by decide +kernel
theorem d_X10_findCorners_4 : decode prog_1_method_47_code 4 = .ok (.iload_n 2, 1) := by decide +kernel
theorem d_X10_findCorners_5 : decode prog_1_method_47_code 5 = .ok (.iload_n 1, 1) := by decide +kernel
theorem d_X10_findCorners_6 : decode prog_1_method_47_code 6 = .ok (.if_icmp .lt 14, 3) := by decide +kernel
theorem d_X10_findCorners_9 : decode prog_1_method_47_code 9 = .ok (.iload_n 2, 1) := by decide +kernel
theorem d_X10_findCorners_10 : decode prog_1_method_47_code 10 = .ok (.aload_n 0, 1) := by decide +kernel
theorem d_X10_findCorners_11 : decode prog_1_method_47_code 11 = .ok (.arraylength, 1) := by decide +kernel
theorem d_X10_findCorners_12 : decode prog_1_method_47_code 12 = .ok (.if_icmp .ge 8, 3) := by decide +kernel
theorem d_X10_findCorners_15 : decode prog_1_method_47_code 15 = .ok (.aload_n 3, 1) := by decide +kernel
theorem d_X10_findCorners_16 : decode prog_1_method_47_code 16 = .ok (.arraylength, 1) := by decide +kernel
theorem d_X10_findCorners_17 : decode prog_1_method_47_code 17 = .ok (.ifCond .ne 5, 3) := by decide +kernel
theorem d_X10_findCorners_20 : decode prog_1_method_47_code 20 = .ok (.iconst 0, 1) := by decide +kernel
theorem d_X10_findCorners_21 : decode prog_1_method_47_code 21 = .ok (.ireturn, 1) := by decide +kernel
theorem d_X10_findCorners_22 : decode prog_1_method_47_code 22 = .ok (.iconst 1, 1) := by decide +kernel
theorem d_X10_findCorners_23 : decode prog_1_method_47_code 23 = .ok (.istore 4, 2) := by decide +kernel
theorem d_X10_findCorners_25 : decode prog_1_method_47_code 25 = .ok (.iload_n 1, 1) := by decide +kernel
theorem d_X10_findCorners_26 : decode prog_1_method_47_code 26 = .ok (.istore 5, 2) := by decide +kernel
theorem d_X10_findCorners_28 : decode prog_1_method_47_code 28 = .ok (.aload_n 3, 1) := by decide +kernel
theorem d_X10_findCorners_29 : decode prog_1_method_47_code 29 = .ok (.iconst 0, 1) := by decide +kernel
theorem d_X10_findCorners_30 : decode prog_1_method_47_code 30 = .ok (.iload_n 1, 1) := by decide +kernel
theorem d_X10_findCorners_31 : decode prog_1_method_47_code 31 = .ok (.iastore, 1) := by decide +kernel
theorem d_X10_findCorners_32 : decode prog_1_method_47_code 32 = .ok (.iload 5, 2) := by decide +kernel
theorem d_X10_findCorners_34 : decode prog_1_method_47_code 34 = .ok (.iload_n 2, 1) := by decide +kernel
theorem d_X10_findCorners_35 : decode prog_1_method_47_code 35 = .ok (.if_icmp .ge 71, 3) := by decide +kernel
theorem d_X10_findCorners_38 : decode prog_1_method_47_code 38 = .ok (.iload 4, 2) := by decide +kernel
theorem d_X10_findCorners_40 : decode prog_1_method_47_code 40 = .ok (.aload_n 3, 1) := by decide +kernel
theorem d_X10_findCorners_41 : decode prog_1_method_47_code 41 = .ok (.arraylength, 1) := by decide +kernel
theorem d_X10_findCorners_42 : decode prog_1_method_47_code 42 = .ok (.if_icmp .ge 64, 3) := by decide +kernel
theorem d_X10_findCorners_45 : decode prog_1_method_47_code 45 = .ok (.iload_n 2, 1) := by decide +kernel
theorem d_X10_findCorners_46 : decode prog_1_method_47_code 46 = .ok (.istore 6, 2) := by decide +kernel
theorem d_X10_findCorners_48 : decode prog_1_method_47_code 48 = .ok (.iload_n 2, 1) := by decide +kernel
theorem d_X10_findCorners_49 : decode prog_1_method_47_code 49 = .ok (.iconst 1, 1) := by decide +kernel
theorem d_X10_findCorners_50 : decode prog_1_method_47_code 50 = .ok (.isub, 1) := by decide +kernel
theorem d_X10_findCorners_51 : decode prog_1_method_47_code 51 = .ok (.istore 7, 2) := by decide +kernel
theorem d_X10_findCorners_53 : decode prog_1_method_47_code 53 = .ok (.iload 7, 2) := by decide +kernel
theorem d_X10_findCorners_55 : decode prog_1_method_47_code 55 = .ok (.iload 5, 2) := by decide +kernel
theorem d_X10_findCorners_57 : decode prog_1_method_47_code 57 = .ok (.if_icmp .le 33, 3) := by decide +kernel
theorem d_X10_findCorners_60 : decode prog_1_method_47_code 60 = .ok (.aload_n 0, 1) := by decide +kernel
theorem d_X10_findCorners_61 : decode prog_1_method_47_code 61 = .ok (.iload 7, 2) := by decide +kernel
theorem d_X10_findCorners_63 : decode prog_1_method_47_code 63 = .ok (.iaload, 1) := by decide +kernel
theorem d_X10_findCorners_64 : decode prog_1_method_47_code 64 = .ok (.ifCond .lt 20, 3) := by decide +kernel
theorem d_X10_findCorners_67 : decode prog_1_method_47_code 67 = .ok (.aload_n 0, 1) := by decide +kernel
theorem d_X10_findCorners_68 : decode prog_1_method_47_code 68 = .ok (.iload 5, 2) := by decide +kernel
theorem d_X10_findCorners_70 : decode prog_1_method_47_code 70 = .ok (.iload 7, 2) := by decide +kernel
theorem d_X10_findCorners_72 : decode prog_1_method_47_code 72 = .ok (.iload 6, 2) := by decide +kernel
theorem d_X10_findCorners_74 : decode prog_1_method_47_code 74 = .ok (.invokestatic 372, 3) := by decide +kernel
theorem d_X10_findCorners_77 : decode prog_1_method_47_code 77 = .ok (.ifCond .eq 7, 3) := by decide +kernel
theorem d_X10_findCorners_80 : decode prog_1_method_47_code 80 = .ok (.iload 7, 2) := by decide +kernel
theorem d_X10_findCorners_82 : decode prog_1_method_47_code 82 = .ok (.istore 6, 2) := by decide +kernel
theorem d_X10_findCorners_84 : decode prog_1_method_47_code 84 = .ok (.iinc 7 (-1), 3) := by decide +kernel
theorem d_X10_findCorners_87 : decode prog_1_method_47_code 87 = .ok (.goto (-34), 3) := by decide +kernel
theorem d_X10_findCorners_90 : decode prog_1_method_47_code 90 = .ok (.aload_n 3, 1) := by decide +kernel
theorem d_X10_findCorners_91 : decode prog_1_method_47_code 91 = .ok (.iload 4, 2) := by decide +kernel
theorem d_X10_findCorners_93 : decode prog_1_method_47_code 93 = .ok (.iload 6, 2) := by decide +kernel
theorem d_X10_findCorners_95 : decode prog_1_method_47_code 95 = .ok (.iastore, 1) := by decide +kernel
theorem d_X10_findCorners_96 : decode prog_1_method_47_code 96 = .ok (.iinc 4 1, 3) := by decide +kernel
theorem d_X10_findCorners_99 : decode prog_1_method_47_code 99 = .ok (.iload 6, 2) := by decide +kernel
theorem d_X10_findCorners_101 : decode prog_1_method_47_code 101 = .ok (.istore 5, 2) := by decide +kernel
theorem d_X10_findCorners_103 : decode prog_1_method_47_code 103 = .ok (.goto (-71), 3) := by decide +kernel
theorem d_X10_findCorners_106 : decode prog_1_method_47_code 106 = .ok (.iload 4, 2) := by decide +kernel
theorem d_X10_findCorners_108 : decode prog_1_method_47_code 108 = .ok (.ireturn, 1) := by decide +kernel
def f_X10_findCorners_84 (rec_32 : Int → Int → tp_M → Option (Int × tp_M)) (rec_53 : Int → Int → Option (Int × tp_M)) (x0 : Int) (x2 : Int) (x3 : Int) (x4 : Int) (x5 : Int) (x6 : Int) (x7 : Int) (M0 : tp_M) : Option (Int × tp_M) :=
  tp_lt (tp_w (x7 + (-1))) fun y15 =>
  rec_53 x6 y15
set_option maxHeartbeats 4000000 in
set_option maxRecDepth 100000 in
theorem T_X10_findCorners_84 (G : tp_G) (rec_32 : Int → Int → tp_M → Option (Int × tp_M)) (rec_53 : Int → Int → Option (Int × tp_M)) (x0 : Int) (x2 : Int) (x3 : Int) (x4 : Int) (x5 : Int) (x6 : Int) (x7 : Int) (M0 : tp_M) (hrec_32 : ∀ (x4' x5' : Int) (M' : tp_M), tp_J i_X10_findCorners (tp_rm 1) G 0 0 o_X10_findCorners tp_NC (tp_st M') 0 0 [some (.inr (.inr x0)), none, some (.inl x2), some (.inr (.inr x3)), some (.inl (x4')), some (.inl (x5')), none, none] 32 [] (rec_32 x4' x5' M')) (hrec_53 : ∀ (x6' x7' : Int), tp_J i_X10_findCorners (tp_rm 1) G 0 0 o_X10_findCorners tp_NC (tp_st M0) 0 0 [some (.inr (.inr x0)), none, some (.inl x2), some (.inr (.inr x3)), some (.inl x4), some (.inl x5), some (.inl (x6')), some (.inl (x7'))] 53 [] (rec_53 x6' x7')) (hg_x0 : tp_tg x0 = 21) (hg_x3 : tp_tg x3 = 21) : tp_J i_X10_findCorners (tp_rm 1) G 0 0 o_X10_findCorners tp_NC (tp_st M0) 0 0 [some (.inr (.inr x0)), none, some (.inl x2), some (.inr (.inr x3)), some (.inl x4), some (.inl x5), some (.inl x6), some (.inl x7)] 84 [] (f_X10_findCorners_84 rec_32 rec_53 x0 x2 x3 x4 x5 x6 x7 M0) := by
  unfold f_X10_findCorners_84
  refine j_iincN (lv' := fun y15 => [some (.inr (.inr x0)), none, some (.inl x2), some (.inr (.inr x3)), some (.inl x4), some (.inl x5), some (.inl x6), some (.inl y15)]) d_X10_findCorners_84 rfl (Nat.le_of_ble_eq_true rfl) (fun _ => rfl) (fun y15 hy15 => ?_)
  refine j_goto (tgt := 53) d_X10_findCorners_87 (by decide) ?_
  exact j_wk [true, false, true, true, true, true, true, true] rfl rfl (hrec_53 x6 y15)
def f_X10_findCorners_53B (rec_32 : Int → Int → tp_M → Option (Int × tp_M)) (x0 : Int) (x2 : Int) (x3 : Int) (x4 : Int) (x5 : Int) (M0 : tp_M) (rec_53 : Int → Int → Option (Int × tp_M)) (x6 : Int) (x7 : Int) : Option (Int × tp_M) :=
  if x7 ≤ x5 then
    if 0 ≤ x4 ∧ x4 < tp_al x3 then
      tp_mp (tp_up M0 x3 x4 x6) fun M12 =>
      tp_lt (tp_w (x4 + 1)) fun y13 =>
      rec_32 y13 x6 M12 else none
  else
    if 0 ≤ x7 ∧ x7 < tp_al x0 then
      if (M0 x0 x7) < 0 then
        f_X10_findCorners_84 rec_32 rec_53 x0 x2 x3 x4 x5 x6 x7 M0
      else
        (f_X10_liesBelow x0 x5 x7 x6 M0).bind fun r16 =>
        if r16 = 0 then
          f_X10_findCorners_84 rec_32 rec_53 x0 x2 x3 x4 x5 x6 x7 M0
        else
          f_X10_findCorners_84 rec_32 rec_53 x0 x2 x3 x4 x5 x7 x7 M0 else none
set_option maxHeartbeats 4000000 in
set_option maxRecDepth 100000 in
theorem T_X10_findCorners_53B (G : tp_G) (rec_32 : Int → Int → tp_M → Option (Int × tp_M)) (x0 : Int) (x2 : Int) (x3 : Int) (x4 : Int) (x5 : Int) (M0 : tp_M) (hrec_32 : ∀ (x4' x5' : Int) (M' : tp_M), tp_J i_X10_findCorners (tp_rm 1) G 0 0 o_X10_findCorners tp_NC (tp_st M') 0 0 [some (.inr (.inr x0)), none, some (.inl x2), some (.inr (.inr x3)), some (.inl (x4')), some (.inl (x5')), none, none] 32 [] (rec_32 x4' x5' M')) (hg_x0 : tp_tg x0 = 21) (hg_x3 : tp_tg x3 = 21) (rec_53 : Int → Int → Option (Int × tp_M)) (hrec_53 : ∀ (x6' x7' : Int), tp_J i_X10_findCorners (tp_rm 1) G 0 0 o_X10_findCorners tp_NC (tp_st M0) 0 0 [some (.inr (.inr x0)), none, some (.inl x2), some (.inr (.inr x3)), some (.inl x4), some (.inl x5), some (.inl (x6')), some (.inl (x7'))] 53 [] (rec_53 x6' x7')) (x6 : Int) (x7 : Int) : tp_J i_X10_findCorners (tp_rm 1) G 0 0 o_X10_findCorners tp_NC (tp_st M0) 0 0 [some (.inr (.inr x0)), none, some (.inl x2), some (.inr (.inr x3)), some (.inl x4), some (.inl x5), some (.inl x6), some (.inl x7)] 53 [] (f_X10_findCorners_53B rec_32 x0 x2 x3 x4 x5 M0 rec_53 x6 x7) := by
  unfold f_X10_findCorners_53B
  refine j_iload d_X10_findCorners_53 rfl ?_
  refine j_iload d_X10_findCorners_55 rfl ?_
  refine j_icmp_le (tgt := 90) d_X10_findCorners_57 (by decide) (fun h11 => ?_) (fun h11 => ?_)
  · refine j_aload_n rfl d_X10_findCorners_90 rfl ?_
    refine j_iload d_X10_findCorners_91 rfl ?_
    refine j_iload d_X10_findCorners_93 rfl ?_
    refine j_iast hg_x3 rfl d_X10_findCorners_95 (fun M12 hM12 => ?_)
    refine j_iincN (lv' := fun y13 => [some (.inr (.inr x0)), none, some (.inl x2), some (.inr (.inr x3)), some (.inl y13), some (.inl x5), some (.inl x6), some (.inl x7)]) d_X10_findCorners_96 rfl (Nat.le_of_ble_eq_true rfl) (fun _ => rfl) (fun y13 hy13 => ?_)
    refine j_iload d_X10_findCorners_99 rfl ?_
    refine j_istore (lv' := [some (.inr (.inr x0)), none, some (.inl x2), some (.inr (.inr x3)), some (.inl y13), some (.inl x6), some (.inl x6), some (.inl x7)]) d_X10_findCorners_101 (Nat.le_of_ble_eq_true rfl) rfl ?_
    refine j_goto (tgt := 32) d_X10_findCorners_103 (by decide) ?_
    exact j_wk [true, false, true, true, true, true, false, false] rfl rfl (hrec_32 y13 x6 M12)
  · refine j_aload_n rfl d_X10_findCorners_60 rfl ?_
    refine j_iload d_X10_findCorners_61 rfl ?_
    refine j_iald hg_x0 rfl d_X10_findCorners_63 ?_
    refine j_if_lt (tgt := 84) d_X10_findCorners_64 (by decide) (fun h14 => ?_) (fun h14 => ?_)
    · exact j_wk [true, false, true, true, true, true, true, true] rfl rfl (T_X10_findCorners_84 G rec_32 rec_53 x0 x2 x3 x4 x5 x6 x7 M0 hrec_32 hrec_53 hg_x0 hg_x3)
    · refine j_aload_n rfl d_X10_findCorners_67 rfl ?_
      refine j_iload d_X10_findCorners_68 rfl ?_
      refine j_iload d_X10_findCorners_70 rfl ?_
      refine j_iload d_X10_findCorners_72 rfl ?_
      refine j_bind (fun r16 h17 => ?_)
      refine j_callS (y := y_X10_liesBelow) (I' := i_X10_liesBelow) (avs := [.inr (.inr x0), .inl x5, .inl x7, .inl x6]) (st := []) (c_X10_liesBelow G x0 x5 x7 x6 M0 r16 h17) cs_Main_372 wd_747 wd_748 rfl rfl (Nat.le_of_ble_eq_true rfl) ⟨rfl, rfl⟩ ⟨by decide, by decide⟩ ⟨by decide, by decide⟩ d_X10_findCorners_74 ?_
      refine j_if_eq (tgt := 84) d_X10_findCorners_77 (by decide) (fun h18 => ?_) (fun h18 => ?_)
      · exact j_wk [true, false, true, true, true, true, true, true] rfl rfl (T_X10_findCorners_84 G rec_32 rec_53 x0 x2 x3 x4 x5 x6 x7 M0 hrec_32 hrec_53 hg_x0 hg_x3)
      · refine j_iload d_X10_findCorners_80 rfl ?_
        refine j_istore (lv' := [some (.inr (.inr x0)), none, some (.inl x2), some (.inr (.inr x3)), some (.inl x4), some (.inl x5), some (.inl x7), some (.inl x7)]) d_X10_findCorners_82 (Nat.le_of_ble_eq_true rfl) rfl ?_
        exact j_wk [true, false, true, true, true, true, true, true] rfl rfl (T_X10_findCorners_84 G rec_32 rec_53 x0 x2 x3 x4 x5 x7 x7 M0 hrec_32 hrec_53 hg_x0 hg_x3)
def f_X10_findCorners_53 (rec_32 : Int → Int → tp_M → Option (Int × tp_M)) (x0 : Int) (x2 : Int) (x3 : Int) (x4 : Int) (x5 : Int) (x6 : Int) (x7 : Int) (M0 : tp_M) : Option (Int × tp_M) := tp_lp (σ := Int × Int) (fun rec_ u => f_X10_findCorners_53B rec_32 x0 x2 x3 x4 x5 M0 (fun x6' x7' => rec_ (x6', x7')) u.1 u.2) tp_N (x6, x7)
set_option maxHeartbeats 4000000 in
set_option maxRecDepth 100000 in
theorem T_X10_findCorners_53 (G : tp_G) (rec_32 : Int → Int → tp_M → Option (Int × tp_M)) (x0 : Int) (x2 : Int) (x3 : Int) (x4 : Int) (x5 : Int) (x6 : Int) (x7 : Int) (M0 : tp_M) (hrec_32 : ∀ (x4' x5' : Int) (M' : tp_M), tp_J i_X10_findCorners (tp_rm 1) G 0 0 o_X10_findCorners tp_NC (tp_st M') 0 0 [some (.inr (.inr x0)), none, some (.inl x2), some (.inr (.inr x3)), some (.inl (x4')), some (.inl (x5')), none, none] 32 [] (rec_32 x4' x5' M')) (hg_x0 : tp_tg x0 = 21) (hg_x3 : tp_tg x3 = 21) : tp_J i_X10_findCorners (tp_rm 1) G 0 0 o_X10_findCorners tp_NC (tp_st M0) 0 0 [some (.inr (.inr x0)), none, some (.inl x2), some (.inr (.inr x3)), some (.inl x4), some (.inl x5), some (.inl x6), some (.inl x7)] 53 [] (f_X10_findCorners_53 rec_32 x0 x2 x3 x4 x5 x6 x7 M0) := by
  unfold f_X10_findCorners_53
  exact j_lp (σ := Int × Int) (n' := fun _ => tp_NC) (g' := fun u => tp_st M0) (k' := fun _ => 0) (q' := fun _ => 0) (lv' := fun u => [some (.inr (.inr x0)), none, some (.inl x2), some (.inr (.inr x3)), some (.inl x4), some (.inl x5), some (.inl u.1), some (.inl u.2)]) (fun rec_ hrec u => T_X10_findCorners_53B G rec_32 x0 x2 x3 x4 x5 M0 hrec_32 hg_x0 hg_x3 (fun x6' x7' => rec_ (x6', x7')) (fun x6' x7' => hrec (x6', x7')) u.1 u.2) tp_N (x6, x7)
def f_X10_findCorners_32B (x0 : Int) (x2 : Int) (x3 : Int) (rec_32 : Int → Int → tp_M → Option (Int × tp_M)) (x4 : Int) (x5 : Int) (M0 : tp_M) : Option (Int × tp_M) :=
  if x2 ≤ x5 then
    some (x4, M0)
  else
    if (tp_al x3) ≤ x4 then
      some (x4, M0)
    else
      tp_lt ((tp_w (x2 - 1))) fun y10 =>
      f_X10_findCorners_53 rec_32 x0 x2 x3 x4 x5 x2 y10 M0
set_option maxHeartbeats 4000000 in
set_option maxRecDepth 100000 in
theorem T_X10_findCorners_32B (G : tp_G) (x0 : Int) (x2 : Int) (x3 : Int) (hg_x0 : tp_tg x0 = 21) (hg_x3 : tp_tg x3 = 21) (rec_32 : Int → Int → tp_M → Option (Int × tp_M)) (hrec_32 : ∀ (x4' x5' : Int) (M' : tp_M), tp_J i_X10_findCorners (tp_rm 1) G 0 0 o_X10_findCorners tp_NC (tp_st M') 0 0 [some (.inr (.inr x0)), none, some (.inl x2), some (.inr (.inr x3)), some (.inl (x4')), some (.inl (x5')), none, none] 32 [] (rec_32 x4' x5' M')) (x4 : Int) (x5 : Int) (M0 : tp_M) : tp_J i_X10_findCorners (tp_rm 1) G 0 0 o_X10_findCorners tp_NC (tp_st M0) 0 0 [some (.inr (.inr x0)), none, some (.inl x2), some (.inr (.inr x3)), some (.inl x4), some (.inl x5), none, none] 32 [] (f_X10_findCorners_32B x0 x2 x3 rec_32 x4 x5 M0) := by
  unfold f_X10_findCorners_32B
  refine j_iload d_X10_findCorners_32 rfl ?_
  refine j_iload_n rfl d_X10_findCorners_34 rfl ?_
  refine j_icmp_ge (tgt := 106) d_X10_findCorners_35 (by decide) (fun h8 => ?_) (fun h8 => ?_)
  · refine j_iload d_X10_findCorners_106 rfl ?_
    exact j_iret d_X10_findCorners_108 rfl rfl ⟨rfl, rfl⟩
  · refine j_iload d_X10_findCorners_38 rfl ?_
    refine j_aload_n rfl d_X10_findCorners_40 rfl ?_
    refine j_alen hg_x3 (by decide) rfl (tp_al_r _) (ty := .int) (by decide) d_X10_findCorners_41 ?_
    refine j_icmp_ge (tgt := 106) d_X10_findCorners_42 (by decide) (fun h9 => ?_) (fun h9 => ?_)
    · refine j_iload d_X10_findCorners_106 rfl ?_
      exact j_iret d_X10_findCorners_108 rfl rfl ⟨rfl, rfl⟩
    · refine j_iload_n rfl d_X10_findCorners_45 rfl ?_
      refine j_istore (lv' := [some (.inr (.inr x0)), none, some (.inl x2), some (.inr (.inr x3)), some (.inl x4), some (.inl x5), some (.inl x2), none]) d_X10_findCorners_46 (Nat.le_of_ble_eq_true rfl) rfl ?_
      refine j_iload_n rfl d_X10_findCorners_48 rfl ?_
      refine j_iconst ⟨by decide, by decide⟩ d_X10_findCorners_49 ?_
      refine j_isub d_X10_findCorners_50 ?_
      refine j_nmI (fun y10 hy10 => ?_)
      refine j_istore (lv' := [some (.inr (.inr x0)), none, some (.inl x2), some (.inr (.inr x3)), some (.inl x4), some (.inl x5), some (.inl x2), some (.inl y10)]) d_X10_findCorners_51 (Nat.le_of_ble_eq_true rfl) rfl ?_
      exact j_wk [true, false, true, true, true, true, true, true] rfl rfl (T_X10_findCorners_53 G rec_32 x0 x2 x3 x4 x5 x2 y10 M0 hrec_32 hg_x0 hg_x3)
def f_X10_findCorners_32 (x0 : Int) (x2 : Int) (x3 : Int) (x4 : Int) (x5 : Int) (M0 : tp_M) : Option (Int × tp_M) := tp_lp (σ := Int × Int × tp_M) (fun rec_ u => f_X10_findCorners_32B x0 x2 x3 (fun x4' x5' M0' => rec_ (x4', x5', M0')) u.1 u.2.1 u.2.2) tp_N (x4, x5, M0)
set_option maxHeartbeats 4000000 in
set_option maxRecDepth 100000 in
theorem T_X10_findCorners_32 (G : tp_G) (x0 : Int) (x2 : Int) (x3 : Int) (x4 : Int) (x5 : Int) (M0 : tp_M) (hg_x0 : tp_tg x0 = 21) (hg_x3 : tp_tg x3 = 21) : tp_J i_X10_findCorners (tp_rm 1) G 0 0 o_X10_findCorners tp_NC (tp_st M0) 0 0 [some (.inr (.inr x0)), none, some (.inl x2), some (.inr (.inr x3)), some (.inl x4), some (.inl x5), none, none] 32 [] (f_X10_findCorners_32 x0 x2 x3 x4 x5 M0) := by
  unfold f_X10_findCorners_32
  exact j_lp (σ := Int × Int × tp_M) (n' := fun _ => tp_NC) (g' := fun u => tp_st u.2.2) (k' := fun _ => 0) (q' := fun _ => 0) (lv' := fun u => [some (.inr (.inr x0)), none, some (.inl x2), some (.inr (.inr x3)), some (.inl u.1), some (.inl u.2.1), none, none]) (fun rec_ hrec u => T_X10_findCorners_32B G x0 x2 x3 hg_x0 hg_x3 (fun x4' x5' M0' => rec_ (x4', x5', M0')) (fun x4' x5' M0' => hrec (x4', x5', M0')) u.1 u.2.1 u.2.2) tp_N (x4, x5, M0)
def f_X10_findCorners (a0 : Int) (a1 : Int) (a2 : Int) (a3 : Int) (M0 : tp_M) : Option (Int × tp_M) :=
  if tp_tg a0 = 21 then
    if tp_tg a3 = 21 then
      if a1 < 0 then
        some (0, M0)
      else
        if a2 < a1 then
          some (0, M0)
        else
          if (tp_al a0) ≤ a2 then
            some (0, M0)
          else
            if ¬ (tp_al a3) = 0 then
              if (0 : Int) ≤ 0 ∧ 0 < tp_al a3 then
                tp_mp (tp_up M0 a3 0 a1) fun M7 =>
                f_X10_findCorners_32 a0 a2 a3 1 a1 M7 else none
            else
              some (0, M0) else none else none
set_option maxHeartbeats 4000000 in
set_option maxRecDepth 100000 in
theorem T_X10_findCorners (G : tp_G) (a0 : Int) (a1 : Int) (a2 : Int) (a3 : Int) (M0 : tp_M) : tp_J i_X10_findCorners (tp_rm 1) G 0 0 o_X10_findCorners tp_NC (tp_st M0) 0 0 [some (.inr (.inr a0)), some (.inl a1), some (.inl a2), some (.inr (.inr a3)), none, none, none, none] 0 [] (f_X10_findCorners a0 a1 a2 a3 M0) := by
  unfold f_X10_findCorners
  refine tp_chk (fun ht1 => ?_)
  refine tp_chk (fun ht2 => ?_)
  refine j_iload_n rfl d_X10_findCorners_0 rfl ?_
  refine j_if_lt (tgt := 20) d_X10_findCorners_1 (by decide) (fun h3 => ?_) (fun h3 => ?_)
  · refine j_iconst ⟨by decide, by decide⟩ d_X10_findCorners_20 ?_
    exact j_iret d_X10_findCorners_21 rfl rfl ⟨rfl, rfl⟩
  · refine j_iload_n rfl d_X10_findCorners_4 rfl ?_
    refine j_iload_n rfl d_X10_findCorners_5 rfl ?_
    refine j_icmp_lt (tgt := 20) d_X10_findCorners_6 (by decide) (fun h4 => ?_) (fun h4 => ?_)
    · refine j_iconst ⟨by decide, by decide⟩ d_X10_findCorners_20 ?_
      exact j_iret d_X10_findCorners_21 rfl rfl ⟨rfl, rfl⟩
    · refine j_iload_n rfl d_X10_findCorners_9 rfl ?_
      refine j_aload_n rfl d_X10_findCorners_10 rfl ?_
      refine j_alen ht1 (by decide) rfl (tp_al_r _) (ty := .int) (by decide) d_X10_findCorners_11 ?_
      refine j_icmp_ge (tgt := 20) d_X10_findCorners_12 (by decide) (fun h5 => ?_) (fun h5 => ?_)
      · refine j_iconst ⟨by decide, by decide⟩ d_X10_findCorners_20 ?_
        exact j_iret d_X10_findCorners_21 rfl rfl ⟨rfl, rfl⟩
      · refine j_aload_n rfl d_X10_findCorners_15 rfl ?_
        refine j_alen ht2 (by decide) rfl (tp_al_r _) (ty := .int) (by decide) d_X10_findCorners_16 ?_
        refine j_if_ne (tgt := 22) d_X10_findCorners_17 (by decide) (fun h6 => ?_) (fun h6 => ?_)
        · refine j_iconst ⟨by decide, by decide⟩ d_X10_findCorners_22 ?_
          refine j_istore (lv' := [some (.inr (.inr a0)), some (.inl a1), some (.inl a2), some (.inr (.inr a3)), some (.inl 1), none, none, none]) d_X10_findCorners_23 (Nat.le_of_ble_eq_true rfl) rfl ?_
          refine j_iload_n rfl d_X10_findCorners_25 rfl ?_
          refine j_istore (lv' := [some (.inr (.inr a0)), some (.inl a1), some (.inl a2), some (.inr (.inr a3)), some (.inl 1), some (.inl a1), none, none]) d_X10_findCorners_26 (Nat.le_of_ble_eq_true rfl) rfl ?_
          refine j_aload_n rfl d_X10_findCorners_28 rfl ?_
          refine j_iconst ⟨by decide, by decide⟩ d_X10_findCorners_29 ?_
          refine j_iload_n rfl d_X10_findCorners_30 rfl ?_
          refine j_iast ht2 rfl d_X10_findCorners_31 (fun M7 hM7 => ?_)
          exact j_wk [true, false, true, true, true, true, false, false] rfl rfl (T_X10_findCorners_32 G a0 a2 a3 1 a1 M7 ht1 ht2)
        · refine j_iconst ⟨by decide, by decide⟩ d_X10_findCorners_20 ?_
          exact j_iret d_X10_findCorners_21 rfl rfl ⟨rfl, rfl⟩
set_option maxHeartbeats 4000000 in
set_option maxRecDepth 100000 in
theorem c_X10_findCorners (G : tp_G) (a0 : Int) (a1 : Int) (a2 : Int) (a3 : Int) (M0 : tp_M) (r : Int × tp_M) (h : f_X10_findCorners a0 a1 a2 a3 M0 = some r) (l : Launch) : Met l y_X10_findCorners (tp_ws y_X10_findCorners i_X10_findCorners) (tp_rm 1) (tp_Pc G [.inr (.inr a0), .inl a1, .inl a2, .inr (.inr a3)] tp_NC (tp_st M0)) (tp_Q G (o_X10_findCorners r)) 0 0 (tp_A G) :=
  tp_met (I := i_X10_findCorners) (y := y_X10_findCorners) (by decide +kernel) (Eq.refl "TypesAtPrime") (Eq.refl "findCorners") (lv := [some (.inr (.inr a0)), some (.inl a1), some (.inl a2), some (.inr (.inr a3)), none, none, none, none]) rfl (Nat.le_of_ble_eq_true rfl) (T_X10_findCorners G a0 a1 a2 a3 M0) h l
theorem tg_41 : tp_tg 41 = 9 := by decide +kernel
theorem wd_302 : (.fieldLink "TypesAtPrime$Tree" 47 "TypesAtPrime$Tree" "sideCount" "I" : Cond) ∈ lw_tbl := List.mem_append_right _ (List.mem_of_getElem? (i := 302) (by decide +kernel))
theorem fl_Tree_47 : tp_F "TypesAtPrime$Tree" 47 9 6 0 := ⟨_, _, _, rfl, by decide, rfl, wd_302, rfl, by decide⟩
theorem wd_304 : (.fieldLink "TypesAtPrime$Tree" 23 "TypesAtPrime$Tree" "sides" "[LTypesAtPrime$Side;" : Cond) ∈ lw_tbl := List.mem_append_right _ (List.mem_of_getElem? (i := 304) (by decide +kernel))
theorem fl_Tree_23 : tp_F "TypesAtPrime$Tree" 23 9 8 2 := ⟨_, _, _, rfl, by decide, rfl, wd_304, rfl, by decide⟩
theorem tg_44 : tp_tg 44 = 29 := by decide +kernel
theorem al_44 : tp_al 44 = 48 := by decide +kernel
theorem rv_41_8 : tp_rv 41 8 = 44 := by decide +kernel
theorem aa_44 : ∀ i : Int, 0 ≤ i → i < 48 → tp_rv 44 i.toNat = (118 + 3 * i) ∧ tp_tg (118 + 3 * i) = 7 ∧ tp_al (118 + 3 * i) = 8 := by
  intro i h0 h1
  have h : (List.range 48).all (fun j => decide (tp_rv 44 j = (118 + 3 * (j : Int)) ∧ tp_tg (118 + 3 * (j : Int)) = 7 ∧ tp_al (118 + 3 * (j : Int)) = 8)) = true := by decide +kernel
  have h3 := of_decide_eq_true (List.all_eq_true.mp h i.toNat (List.mem_range.mpr (by omega)))
  have h4 : ((i.toNat : Nat) : Int) = i := by omega
  rw [h4] at h3
  exact h3
theorem pf_9_6 (v : Int) : ∀ (C : String) (T : u_T) (N : Nat), vwCl[9]? = some (C, T, N) → (T 6).2.2.2 = false ∧ ∀ G : tp_G, ∃ ty, parseFieldDescriptor (T 6).2.2.1 = some ty ∧ narrow ty (tp_enc G (tp_zv 0 v)) = tp_enc G (tp_zv 0 v) ∧ fits ty (tp_enc G (tp_zv 0 v)) = true := by
  intro C T N h
  cases h
  exact ⟨rfl, fun G => ⟨_, tyX9_ok 6 (by decide), rfl, rfl⟩⟩
theorem pt_9 : ∃ ty0 : Nat → FieldType, ∀ (C : String) (T : u_T) (N : Nat), vwCl[9]? = some (C, T, N) → (∀ k, k < N → parseFieldDescriptor (T k).2.2.1 = some (ty0 k)) ∧ ∀ a, a < N → ∀ b, b < N → a ≠ b → (T a).2.1 ≠ (T b).2.1 := ⟨tyX9, fun C T N h => by cases h; exact ⟨tyX9_ok, nmX9⟩⟩
theorem wd_185 : (.fieldLink "TypesAtPrime$Tree" 60 "TypesAtPrime$Knot" "sideCount" "I" : Cond) ∈ lw_tbl := List.mem_append_right _ (List.mem_of_getElem? (i := 185) (by decide +kernel))
theorem fl_Tree_60 : tp_F "TypesAtPrime$Tree" 60 2 7 0 := ⟨_, _, _, rfl, by decide, rfl, wd_185, rfl, by decide⟩
theorem pf_2_7 (v : Int) : ∀ (C : String) (T : u_T) (N : Nat), vwCl[2]? = some (C, T, N) → (T 7).2.2.2 = false ∧ ∀ G : tp_G, ∃ ty, parseFieldDescriptor (T 7).2.2.1 = some ty ∧ narrow ty (tp_enc G (tp_zv 0 v)) = tp_enc G (tp_zv 0 v) ∧ fits ty (tp_enc G (tp_zv 0 v)) = true := by
  intro C T N h
  cases h
  exact ⟨rfl, fun G => ⟨_, tyX2_ok 7 (by decide), rfl, rfl⟩⟩
def y_X9_addSide : MethodName := ⟨"TypesAtPrime$Tree", "addSide", "(LTypesAtPrime$Knot;)LTypesAtPrime$Side;"⟩
abbrev i_X9_addSide : tp_I := (prog_11_method_7_code, "TypesAtPrime$Tree", (some (.object "TypesAtPrime$Side")), 3, "addSide")
abbrev o_X9_addSide : Int × tp_M → tp_O := fun r => (some (.inr (.inr r.1)), tp_NC, tp_st r.2)
theorem d_X9_addSide_0 : decode prog_11_method_7_code 0 = .ok (.aload_n 1, 1) := by decide +kernel
theorem d_X9_addSide_1 : decode prog_11_method_7_code 1 = .ok (.ifnull 22, 3) := by decide +kernel
theorem d_X9_addSide_4 : decode prog_11_method_7_code 4 = .ok (.aload_n 0, 1) := by decide +kernel
theorem d_X9_addSide_5 : decode prog_11_method_7_code 5 = .ok (.getfield 47, 3) := by decide +kernel
theorem d_X9_addSide_8 : decode prog_11_method_7_code 8 = .ok (.ifCond .lt 15, 3) := by decide +kernel
theorem d_X9_addSide_11 : decode prog_11_method_7_code 11 = .ok (.aload_n 0, 1) := by decide +kernel
theorem d_X9_addSide_12 : decode prog_11_method_7_code 12 = .ok (.getfield 47, 3) := by decide +kernel
theorem d_X9_addSide_15 : decode prog_11_method_7_code 15 = .ok (.aload_n 0, 1) := by decide +kernel
theorem d_X9_addSide_16 : decode prog_11_method_7_code 16 = .ok (.getfield 23, 3) := by decide +kernel
theorem d_X9_addSide_19 : decode prog_11_method_7_code 19 = .ok (.arraylength, 1) := by decide +kernel
theorem d_X9_addSide_20 : decode prog_11_method_7_code 20 = .ok (.if_icmp .lt 5, 3) := by decide +kernel
theorem d_X9_addSide_23 : decode prog_11_method_7_code 23 = .ok (.aconst_null, 1) := by decide +kernel
theorem d_X9_addSide_24 : decode prog_11_method_7_code 24 = .ok (.areturn, 1) := by decide +kernel
theorem d_X9_addSide_25 : decode prog_11_method_7_code 25 = .ok (.aload_n 0, 1) := by decide +kernel
theorem d_X9_addSide_26 : decode prog_11_method_7_code 26 = .ok (.getfield 23, 3) := by decide +kernel
theorem d_X9_addSide_29 : decode prog_11_method_7_code 29 = .ok (.aload_n 0, 1) := by decide +kernel
theorem d_X9_addSide_30 : decode prog_11_method_7_code 30 = .ok (.getfield 47, 3) := by decide +kernel
theorem d_X9_addSide_33 : decode prog_11_method_7_code 33 = .ok (.aaload, 1) := by decide +kernel
theorem d_X9_addSide_34 : decode prog_11_method_7_code 34 = .ok (.astore_n 2, 1) := by decide +kernel
theorem d_X9_addSide_35 : decode prog_11_method_7_code 35 = .ok (.aload_n 0, 1) := by decide +kernel
theorem d_X9_addSide_36 : decode prog_11_method_7_code 36 = .ok (.dup, 1) := by decide +kernel
theorem d_X9_addSide_37 : decode prog_11_method_7_code 37 = .ok (.getfield 47, 3) := by decide +kernel
theorem d_X9_addSide_40 : decode prog_11_method_7_code 40 = .ok (.iconst 1, 1) := by decide +kernel
theorem d_X9_addSide_41 : decode prog_11_method_7_code 41 = .ok (.iadd, 1) := by decide +kernel
theorem d_X9_addSide_42 : decode prog_11_method_7_code 42 = .ok (.putfield 47, 3) := by decide +kernel
theorem d_X9_addSide_45 : decode prog_11_method_7_code 45 = .ok (.aload_n 1, 1) := by decide +kernel
theorem d_X9_addSide_46 : decode prog_11_method_7_code 46 = .ok (.dup, 1) := by decide +kernel
theorem d_X9_addSide_47 : decode prog_11_method_7_code 47 = .ok (.getfield 60, 3) := by decide +kernel
theorem d_X9_addSide_50 : decode prog_11_method_7_code 50 = .ok (.iconst 1, 1) := by decide +kernel
theorem d_X9_addSide_51 : decode prog_11_method_7_code 51 = .ok (.iadd, 1) := by decide +kernel
theorem d_X9_addSide_52 : decode prog_11_method_7_code 52 = .ok (.putfield 60, 3) := by decide +kernel
theorem d_X9_addSide_55 : decode prog_11_method_7_code 55 = .ok (.aload_n 2, 1) := by decide +kernel
theorem d_X9_addSide_56 : decode prog_11_method_7_code 56 = .ok (.areturn, 1) := by decide +kernel
def f_X9_addSide (a0 : Int) (M0 : tp_M) : Option (Int × tp_M) :=
  if tp_tg a0 = 2 then
    if a0 = -1 then
      some ((-1), M0)
    else
      if (M0 41 6) < 0 then
        some ((-1), M0)
      else
        if (M0 41 6) < 48 then
          if 0 ≤ (M0 41 6) ∧ (M0 41 6) < 48 then
            tp_lt ((118 + 3 * (M0 41 6))) fun y6 =>
            tp_mp (tp_up M0 41 6 (tp_w ((M0 41 6) + 1))) fun M8 =>
            tp_mp (tp_up M8 a0 7 (tp_w ((M8 a0 7) + 1))) fun M9 =>
            some (y6, M9) else none
        else
          some ((-1), M0) else none
set_option maxHeartbeats 4000000 in
set_option maxRecDepth 100000 in
theorem T_X9_addSide (G : tp_G) (a0 : Int) (M0 : tp_M) : tp_J i_X9_addSide (tp_rm 0) G 0 0 o_X9_addSide tp_NC (tp_st M0) 0 0 [some (.inr (.inr 41)), some (.inr (.inr a0)), none] 0 [] (f_X9_addSide a0 M0) := by
  unfold f_X9_addSide
  refine tp_chk (fun ht1 => ?_)
  refine j_aload_n rfl d_X9_addSide_0 rfl ?_
  refine j_ifnull (tgt := 23) d_X9_addSide_1 (by decide) (fun h2 => ?_) (fun h2 => ?_)
  · refine j_null d_X9_addSide_23 ?_
    exact j_aret d_X9_addSide_24 rfl (Or.inl ⟨_, rfl⟩) rfl ⟨rfl, rfl⟩
  · refine j_aload_n rfl d_X9_addSide_4 rfl ?_
    refine j_geti fl_Tree_47 tg_41 d_X9_addSide_5 ?_
    refine j_if_lt (tgt := 23) d_X9_addSide_8 (by decide) (fun h3 => ?_) (fun h3 => ?_)
    · refine j_null d_X9_addSide_23 ?_
      exact j_aret d_X9_addSide_24 rfl (Or.inl ⟨_, rfl⟩) rfl ⟨rfl, rfl⟩
    · refine j_aload_n rfl d_X9_addSide_11 rfl ?_
      refine j_geti fl_Tree_47 tg_41 d_X9_addSide_12 ?_
      refine j_aload_n rfl d_X9_addSide_15 rfl ?_
      refine j_getr fl_Tree_23 tg_41 rv_41_8 d_X9_addSide_16 ?_
      refine j_alen tg_44 (by decide) al_44 ⟨by decide, by decide⟩ (ty := (.object "TypesAtPrime$Side")) (by decide) d_X9_addSide_19 ?_
      refine j_icmp_lt (tgt := 25) d_X9_addSide_20 (by decide) (fun h4 => ?_) (fun h4 => ?_)
      · refine j_aload_n rfl d_X9_addSide_25 rfl ?_
        refine j_getr fl_Tree_23 tg_41 rv_41_8 d_X9_addSide_26 ?_
        refine j_aload_n rfl d_X9_addSide_29 rfl ?_
        refine j_geti fl_Tree_47 tg_41 d_X9_addSide_30 ?_
        refine j_aald (v := (118 + 3 * (M0 41 6))) (ty := (.object "TypesAtPrime$Side")) tg_44 (by decide) al_44 (by decide) rfl d_X9_addSide_33 (fun h1 h2 => (aa_44 _ h1 h2).1) (fun hi5 => ?_)
        refine j_nmR (fun y6 hy6 => ?_)
        have ht7 : tp_tg y6 = 7 := by rw [hy6]; exact (aa_44 _ hi5.1 hi5.2).2.1
        refine j_astore_n (lv' := [some (.inr (.inr 41)), some (.inr (.inr a0)), some (.inr (.inr y6))]) rfl d_X9_addSide_34 (Nat.le_of_ble_eq_true rfl) rfl ?_
        refine j_aload_n rfl d_X9_addSide_35 rfl ?_
        refine j_dup d_X9_addSide_36 (fun G => tp_cat G _) ?_
        refine j_geti fl_Tree_47 tg_41 d_X9_addSide_37 ?_
        refine j_iconst ⟨by decide, by decide⟩ d_X9_addSide_40 ?_
        refine j_iadd d_X9_addSide_41 ?_
        refine j_put (z := 0) (v := (tp_w ((M0 41 6) + 1))) fl_Tree_47 (by decide) tg_41 (pf_9_6 _) pt_9 d_X9_addSide_42 (fun M8 hM8 => ?_)
        refine j_aload_n rfl d_X9_addSide_45 rfl ?_
        refine j_dup d_X9_addSide_46 (fun G => tp_cat G _) ?_
        refine j_geti fl_Tree_60 ht1 d_X9_addSide_47 ?_
        refine j_iconst ⟨by decide, by decide⟩ d_X9_addSide_50 ?_
        refine j_iadd d_X9_addSide_51 ?_
        refine j_put (z := 0) (v := (tp_w ((M8 a0 7) + 1))) fl_Tree_60 (by decide) ht1 (pf_2_7 _) pt_2 d_X9_addSide_52 (fun M9 hM9 => ?_)
        refine j_aload_n rfl d_X9_addSide_55 rfl ?_
        exact j_aret d_X9_addSide_56 rfl (Or.inl ⟨_, rfl⟩) rfl ⟨rfl, rfl⟩
      · refine j_null d_X9_addSide_23 ?_
        exact j_aret d_X9_addSide_24 rfl (Or.inl ⟨_, rfl⟩) rfl ⟨rfl, rfl⟩
set_option maxHeartbeats 4000000 in
set_option maxRecDepth 100000 in
theorem c_X9_addSide (G : tp_G) (a0 : Int) (M0 : tp_M) (r : Int × tp_M) (h : f_X9_addSide a0 M0 = some r) (l : Launch) : Met l y_X9_addSide (tp_ws y_X9_addSide i_X9_addSide) (tp_rm 0) (tp_Pc G [.inr (.inr 41), .inr (.inr a0)] tp_NC (tp_st M0)) (tp_Q G (o_X9_addSide r)) 0 0 (tp_A G) :=
  tp_met (I := i_X9_addSide) (y := y_X9_addSide) (by decide +kernel) (Eq.refl "TypesAtPrime$Tree") (Eq.refl "addSide") (lv := [some (.inr (.inr 41)), some (.inr (.inr a0)), none]) rfl (Nat.le_of_ble_eq_true rfl) (T_X9_addSide G a0 M0) h l
def y_X10_greatestDivisor : MethodName := ⟨"TypesAtPrime", "greatestDivisor", "(II)I"⟩
abbrev i_X10_greatestDivisor : tp_I := (prog_1_method_49_code, "TypesAtPrime", (some .int), 6, "greatestDivisor")
abbrev o_X10_greatestDivisor (M : tp_M) : Int → tp_O := fun r => (some (.inl r), tp_NC, tp_st M)
theorem d_X10_greatestDivisor_0 : decode prog_1_method_49_code 0 = .ok (.iload_n 0, 1) := by decide +kernel
theorem d_X10_greatestDivisor_1 : decode prog_1_method_49_code 1 = .ok (.istore_n 2, 1) := by decide +kernel
theorem d_X10_greatestDivisor_2 : decode prog_1_method_49_code 2 = .ok (.iload_n 1, 1) := by decide +kernel
theorem d_X10_greatestDivisor_3 : decode prog_1_method_49_code 3 = .ok (.istore_n 3, 1) := by decide +kernel
theorem d_X10_greatestDivisor_4 : decode prog_1_method_49_code 4 = .ok (.iconst 0, 1) := by decide +kernel
theorem d_X10_greatestDivisor_5 : decode prog_1_method_49_code 5 = .ok (.istore 4, 2) := by decide +kernel
theorem d_X10_greatestDivisor_7 : decode prog_1_method_49_code 7 = .ok (.iload 4, 2) := by decide +kernel
theorem d_X10_greatestDivisor_9 : decode prog_1_method_49_code 9 = .ok (.bipush 64, 2) := by decide +kernel
theorem d_X10_greatestDivisor_11 : decode prog_1_method_49_code 11 = .ok (.if_icmp .ge 23, 3) := by decide +kernel
theorem d_X10_greatestDivisor_14 : decode prog_1_method_49_code 14 = .ok (.iload_n 3, 1) := by decide +kernel
theorem d_X10_greatestDivisor_15 : decode prog_1_method_49_code 15 = .ok (.ifCond .eq 19, 3) := by decide +kernel
theorem d_X10_greatestDivisor_18 : decode prog_1_method_49_code 18 = .ok (.iload_n 2, 1) := by decide +kernel
theorem d_X10_greatestDivisor_19 : decode prog_1_method_49_code 19 = .ok (.iload_n 3, 1) := by decide +kernel
theorem d_X10_greatestDivisor_20 : decode prog_1_method_49_code 20 = .ok (.irem, 1) := by decide +kernel
theorem d_X10_greatestDivisor_21 : decode prog_1_method_49_code 21 = .ok (.istore 5, 2) := by decide +kernel
theorem d_X10_greatestDivisor_23 : decode prog_1_method_49_code 23 = .ok (.iload_n 3, 1) := by decide +kernel
theorem d_X10_greatestDivisor_24 : decode prog_1_method_49_code 24 = .ok (.istore_n 2, 1) := by decide +kernel
theorem d_X10_greatestDivisor_25 : decode prog_1_method_49_code 25 = .ok (.iload 5, 2) := by decide +kernel
theorem d_X10_greatestDivisor_27 : decode prog_1_method_49_code 27 = .ok (.istore_n 3, 1) := by decide +kernel
theorem d_X10_greatestDivisor_28 : decode prog_1_method_49_code 28 = .ok (.iinc 4 1, 3) := by decide +kernel
theorem d_X10_greatestDivisor_31 : decode prog_1_method_49_code 31 = .ok (.goto (-24), 3) := by decide +kernel
theorem d_X10_greatestDivisor_34 : decode prog_1_method_49_code 34 = .ok (.iload_n 2, 1) := by decide +kernel
theorem d_X10_greatestDivisor_35 : decode prog_1_method_49_code 35 = .ok (.ireturn, 1) := by decide +kernel
def f_X10_greatestDivisor_7B (M0 : tp_M) (rec_7 : Int → Int → Int → Option (Int)) (x2 : Int) (x3 : Int) (x4 : Int) : Option (Int) :=
  if 64 ≤ x4 then
    some x2
  else
    if x3 = 0 then
      some x2
    else
      if x3 = 0 then none else
        tp_lt ((Int.tmod x2 x3)) fun y3 =>
        tp_lt (tp_w (x4 + 1)) fun y4 =>
        rec_7 x3 y3 y4
set_option maxHeartbeats 4000000 in
set_option maxRecDepth 100000 in
theorem T_X10_greatestDivisor_7B (G : tp_G) (M0 : tp_M) (rec_7 : Int → Int → Int → Option (Int)) (hrec_7 : ∀ (x2' x3' x4' : Int), tp_J i_X10_greatestDivisor (tp_rm 0) G 0 0 (o_X10_greatestDivisor M0) tp_NC (tp_st M0) 0 0 [none, none, some (.inl (x2')), some (.inl (x3')), some (.inl (x4')), none] 7 [] (rec_7 x2' x3' x4')) (x2 : Int) (x3 : Int) (x4 : Int) : tp_J i_X10_greatestDivisor (tp_rm 0) G 0 0 (o_X10_greatestDivisor M0) tp_NC (tp_st M0) 0 0 [none, none, some (.inl x2), some (.inl x3), some (.inl x4), none] 7 [] (f_X10_greatestDivisor_7B M0 rec_7 x2 x3 x4) := by
  unfold f_X10_greatestDivisor_7B
  refine j_iload d_X10_greatestDivisor_7 rfl ?_
  refine j_bipush ⟨by decide, by decide⟩ (by decide +kernel) d_X10_greatestDivisor_9 ?_
  refine j_icmp_ge (tgt := 34) d_X10_greatestDivisor_11 (by decide) (fun h1 => ?_) (fun h1 => ?_)
  · refine j_iload_n rfl d_X10_greatestDivisor_34 rfl ?_
    exact j_iret d_X10_greatestDivisor_35 rfl rfl ⟨rfl, rfl⟩
  · refine j_iload_n rfl d_X10_greatestDivisor_14 rfl ?_
    refine j_if_eq (tgt := 34) d_X10_greatestDivisor_15 (by decide) (fun h2 => ?_) (fun h2 => ?_)
    · refine j_iload_n rfl d_X10_greatestDivisor_34 rfl ?_
      exact j_iret d_X10_greatestDivisor_35 rfl rfl ⟨rfl, rfl⟩
    · refine j_iload_n rfl d_X10_greatestDivisor_18 rfl ?_
      refine j_iload_n rfl d_X10_greatestDivisor_19 rfl ?_
      refine j_irem d_X10_greatestDivisor_20 ?_
      refine j_nmI (fun y3 hy3 => ?_)
      refine j_istore (lv' := [none, none, some (.inl x2), some (.inl x3), some (.inl x4), some (.inl y3)]) d_X10_greatestDivisor_21 (Nat.le_of_ble_eq_true rfl) rfl ?_
      refine j_iload_n rfl d_X10_greatestDivisor_23 rfl ?_
      refine j_istore_n (lv' := [none, none, some (.inl x3), some (.inl x3), some (.inl x4), some (.inl y3)]) rfl d_X10_greatestDivisor_24 (Nat.le_of_ble_eq_true rfl) rfl ?_
      refine j_iload d_X10_greatestDivisor_25 rfl ?_
      refine j_istore_n (lv' := [none, none, some (.inl x3), some (.inl y3), some (.inl x4), some (.inl y3)]) rfl d_X10_greatestDivisor_27 (Nat.le_of_ble_eq_true rfl) rfl ?_
      refine j_iincN (lv' := fun y4 => [none, none, some (.inl x3), some (.inl y3), some (.inl y4), some (.inl y3)]) d_X10_greatestDivisor_28 rfl (Nat.le_of_ble_eq_true rfl) (fun _ => rfl) (fun y4 hy4 => ?_)
      refine j_goto (tgt := 7) d_X10_greatestDivisor_31 (by decide) ?_
      exact j_wk [false, false, true, true, true, false] rfl rfl (hrec_7 x3 y3 y4)
def f_X10_greatestDivisor_7 (x2 : Int) (x3 : Int) (x4 : Int) (M0 : tp_M) : Option (Int) := tp_lp (σ := Int × Int × Int) (fun rec_ u => f_X10_greatestDivisor_7B M0 (fun x2' x3' x4' => rec_ (x2', x3', x4')) u.1 u.2.1 u.2.2) tp_N (x2, x3, x4)
set_option maxHeartbeats 4000000 in
set_option maxRecDepth 100000 in
theorem T_X10_greatestDivisor_7 (G : tp_G) (x2 : Int) (x3 : Int) (x4 : Int) (M0 : tp_M) : tp_J i_X10_greatestDivisor (tp_rm 0) G 0 0 (o_X10_greatestDivisor M0) tp_NC (tp_st M0) 0 0 [none, none, some (.inl x2), some (.inl x3), some (.inl x4), none] 7 [] (f_X10_greatestDivisor_7 x2 x3 x4 M0) := by
  unfold f_X10_greatestDivisor_7
  exact j_lp (σ := Int × Int × Int) (n' := fun _ => tp_NC) (g' := fun u => tp_st M0) (k' := fun _ => 0) (q' := fun _ => 0) (lv' := fun u => [none, none, some (.inl u.1), some (.inl u.2.1), some (.inl u.2.2), none]) (fun rec_ hrec u => T_X10_greatestDivisor_7B G M0 (fun x2' x3' x4' => rec_ (x2', x3', x4')) (fun x2' x3' x4' => hrec (x2', x3', x4')) u.1 u.2.1 u.2.2) tp_N (x2, x3, x4)
def f_X10_greatestDivisor (a0 : Int) (a1 : Int) (M0 : tp_M) : Option (Int) :=
  f_X10_greatestDivisor_7 a0 a1 0 M0
set_option maxHeartbeats 4000000 in
set_option maxRecDepth 100000 in
theorem T_X10_greatestDivisor (G : tp_G) (a0 : Int) (a1 : Int) (M0 : tp_M) : tp_J i_X10_greatestDivisor (tp_rm 0) G 0 0 (o_X10_greatestDivisor M0) tp_NC (tp_st M0) 0 0 [some (.inl a0), some (.inl a1), none, none, none, none] 0 [] (f_X10_greatestDivisor a0 a1 M0) := by
  unfold f_X10_greatestDivisor
  refine j_iload_n rfl d_X10_greatestDivisor_0 rfl ?_
  refine j_istore_n (lv' := [some (.inl a0), some (.inl a1), some (.inl a0), none, none, none]) rfl d_X10_greatestDivisor_1 (Nat.le_of_ble_eq_true rfl) rfl ?_
  refine j_iload_n rfl d_X10_greatestDivisor_2 rfl ?_
  refine j_istore_n (lv' := [some (.inl a0), some (.inl a1), some (.inl a0), some (.inl a1), none, none]) rfl d_X10_greatestDivisor_3 (Nat.le_of_ble_eq_true rfl) rfl ?_
  refine j_iconst ⟨by decide, by decide⟩ d_X10_greatestDivisor_4 ?_
  refine j_istore (lv' := [some (.inl a0), some (.inl a1), some (.inl a0), some (.inl a1), some (.inl 0), none]) d_X10_greatestDivisor_5 (Nat.le_of_ble_eq_true rfl) rfl ?_
  exact j_wk [false, false, true, true, true, false] rfl rfl (T_X10_greatestDivisor_7 G a0 a1 0 M0)
set_option maxHeartbeats 4000000 in
set_option maxRecDepth 100000 in
theorem c_X10_greatestDivisor (G : tp_G) (a0 : Int) (a1 : Int) (M0 : tp_M) (r : Int) (h : f_X10_greatestDivisor a0 a1 M0 = some r) (l : Launch) : Met l y_X10_greatestDivisor (tp_ws y_X10_greatestDivisor i_X10_greatestDivisor) (tp_rm 0) (tp_Pc G [.inl a0, .inl a1] tp_NC (tp_st M0)) (tp_Q G ((o_X10_greatestDivisor M0) r)) 0 0 (tp_A G) :=
  tp_met (I := i_X10_greatestDivisor) (y := y_X10_greatestDivisor) (by decide +kernel) (Eq.refl "TypesAtPrime") (Eq.refl "greatestDivisor") (lv := [some (.inl a0), some (.inl a1), none, none, none, none]) rfl (Nat.le_of_ble_eq_true rfl) (T_X10_greatestDivisor G a0 a1 M0) h l
theorem cs_Path_69 : tp_CS "TypesAtPrime$Path" 69 y_J7_fill_53178 i_J7_fill_53178 2 := ⟨wd_486, wd_14, by decide, by decide, by decide +kernel⟩
theorem wd_766 : (.methodLink "TypesAtPrime$Path" 69 ⟨"java/util/Arrays", "fill", "([II)V"⟩ : Cond) ∈ lw_tbl := List.mem_append_right _ (List.mem_of_getElem? (i := 766) (by decide +kernel))
theorem wd_767 : (.methodLink "TypesAtPrime$Path" 75 ⟨"java/lang/Math", "min", "(II)I"⟩ : Cond) ∈ lw_tbl := List.mem_append_right _ (List.mem_of_getElem? (i := 767) (by decide +kernel))
def y_X5_writeMonomial : MethodName := ⟨"TypesAtPrime$Path", "writeMonomial", "(II[I)V"⟩
abbrev i_X5_writeMonomial : tp_I := (prog_7_method_7_code, "TypesAtPrime$Path", none, 7, "writeMonomial")
abbrev o_X5_writeMonomial : tp_M → tp_O := fun r => (none, tp_NC, tp_st r)
theorem d_X5_writeMonomial_0 : decode prog_7_method_7_code 0 = .ok (.aload_n 3, 1) := by decide +kernel
theorem d_X5_writeMonomial_1 : decode prog_7_method_7_code 1 = .ok (.iconst 0, 1) := by decide +kernel
theorem d_X5_writeMonomial_2 : decode prog_7_method_7_code 2 = .ok (.invokestatic 69, 3) := by decide +kernel
theorem d_X5_writeMonomial_5 : decode prog_7_method_7_code 5 = .ok (.iload_n 1, 1) := by decide +kernel
theorem d_X5_writeMonomial_6 : decode prog_7_method_7_code 6 = .ok (.istore 4, 2) := by decide +kernel
theorem d_X5_writeMonomial_8 : decode prog_7_method_7_code 8 = .ok (.iload_n 2, 1) := by decide +kernel
theorem d_X5_writeMonomial_9 : decode prog_7_method_7_code 9 = .ok (.iconst 1, 1) := by decide +kernel
theorem d_X5_writeMonomial_10 : decode prog_7_method_7_code 10 = .ok (.isub, 1) := by decide +kernel
theorem d_X5_writeMonomial_11 : decode prog_7_method_7_code 11 = .ok (.bipush 6, 2) := by decide +kernel
theorem d_X5_writeMonomial_13 : decode prog_7_method_7_code 13 = .ok (.invokestatic 75, 3) := by decide +kernel
theorem d_X5_writeMonomial_16 : decode prog_7_method_7_code 16 = .ok (.istore 5, 2) := by decide +kernel
theorem d_X5_writeMonomial_18 : decode prog_7_method_7_code 18 = .ok (.iload 5, 2) := by decide +kernel
theorem d_X5_writeMonomial_20 : decode prog_7_method_7_code 20 = .ok (.iconst 1, 1) := by decide +kernel
theorem d_X5_writeMonomial_21 : decode prog_7_method_7_code 21 = .ok (.if_icmp .lt 94, 3) := by decide +kernel
theorem d_X5_writeMonomial_24 : decode prog_7_method_7_code 24 = .ok (.iconst 0, 1) := by decide +kernel
theorem d_X5_writeMonomial_25 : decode prog_7_method_7_code 25 = .ok (.istore 6, 2) := by decide +kernel
theorem d_X5_writeMonomial_27 : decode prog_7_method_7_code 27 = .ok (.iload 6, 2) := by decide +kernel
theorem d_X5_writeMonomial_29 : decode prog_7_method_7_code 29 = .ok (.aload_n 0, 1) := by decide +kernel
theorem d_X5_writeMonomial_30 : decode prog_7_method_7_code 30 = .ok (.getfield 15, 3) := by decide +kernel
theorem d_X5_writeMonomial_33 : decode prog_7_method_7_code 33 = .ok (.iload 5, 2) := by decide +kernel
theorem d_X5_writeMonomial_35 : decode prog_7_method_7_code 35 = .ok (.iaload, 1) := by decide +kernel
theorem d_X5_writeMonomial_36 : decode prog_7_method_7_code 36 = .ok (.if_icmp .ge 35, 3) := by decide +kernel
theorem d_X5_writeMonomial_39 : decode prog_7_method_7_code 39 = .ok (.iload 4, 2) := by decide +kernel
theorem d_X5_writeMonomial_41 : decode prog_7_method_7_code 41 = .ok (.iload 6, 2) := by decide +kernel
theorem d_X5_writeMonomial_43 : decode prog_7_method_7_code 43 = .ok (.aload_n 0, 1) := by decide +kernel
theorem d_X5_writeMonomial_44 : decode prog_7_method_7_code 44 = .ok (.getfield 18, 3) := by decide +kernel
theorem d_X5_writeMonomial_47 : decode prog_7_method_7_code 47 = .ok (.iload 5, 2) := by decide +kernel
theorem d_X5_writeMonomial_49 : decode prog_7_method_7_code 49 = .ok (.iaload, 1) := by decide +kernel
theorem d_X5_writeMonomial_50 : decode prog_7_method_7_code 50 = .ok (.imul, 1) := by decide +kernel
theorem d_X5_writeMonomial_51 : decode prog_7_method_7_code 51 = .ok (.isub, 1) := by decide +kernel
theorem d_X5_writeMonomial_52 : decode prog_7_method_7_code 52 = .ok (.aload_n 0, 1) := by decide +kernel
theorem d_X5_writeMonomial_53 : decode prog_7_method_7_code 53 = .ok (.getfield 15, 3) := by decide +kernel
theorem d_X5_writeMonomial_56 : decode prog_7_method_7_code 56 = .ok (.iload 5, 2) := by decide +kernel
theorem d_X5_writeMonomial_58 : decode prog_7_method_7_code 58 = .ok (.iaload, 1) := by decide +kernel
theorem d_X5_writeMonomial_59 : decode prog_7_method_7_code 59 = .ok (.invokestatic 63, 3) := by decide +kernel
theorem d_X5_writeMonomial_62 : decode prog_7_method_7_code 62 = .ok (.ifCond .eq 9, 3) := by decide +kernel
theorem d_X5_writeMonomial_65 : decode prog_7_method_7_code 65 = .ok (.iinc 6 1, 3) := by decide +kernel
theorem d_X5_writeMonomial_68 : decode prog_7_method_7_code 68 = .ok (.goto (-41), 3) := by decide +kernel
theorem d_X5_writeMonomial_71 : decode prog_7_method_7_code 71 = .ok (.iload 5, 2) := by decide +kernel
theorem d_X5_writeMonomial_73 : decode prog_7_method_7_code 73 = .ok (.aload_n 3, 1) := by decide +kernel
theorem d_X5_writeMonomial_74 : decode prog_7_method_7_code 74 = .ok (.arraylength, 1) := by decide +kernel
theorem d_X5_writeMonomial_75 : decode prog_7_method_7_code 75 = .ok (.if_icmp .ge 9, 3) := by decide +kernel
theorem d_X5_writeMonomial_78 : decode prog_7_method_7_code 78 = .ok (.aload_n 3, 1) := by decide +kernel
theorem d_X5_writeMonomial_79 : decode prog_7_method_7_code 79 = .ok (.iload 5, 2) := by decide +kernel
theorem d_X5_writeMonomial_81 : decode prog_7_method_7_code 81 = .ok (.iload 6, 2) := by decide +kernel
theorem d_X5_writeMonomial_83 : decode prog_7_method_7_code 83 = .ok (.iastore, 1) := by decide +kernel
theorem d_X5_writeMonomial_84 : decode prog_7_method_7_code 84 = .ok (.iload 4, 2) := by decide +kernel
theorem d_X5_writeMonomial_86 : decode prog_7_method_7_code 86 = .ok (.iload 6, 2) := by decide +kernel
theorem d_X5_writeMonomial_88 : decode prog_7_method_7_code 88 = .ok (.aload_n 0, 1) := by decide +kernel
theorem d_X5_writeMonomial_89 : decode prog_7_method_7_code 89 = .ok (.getfield 18, 3) := by decide +kernel
theorem d_X5_writeMonomial_92 : decode prog_7_method_7_code 92 = .ok (.iload 5, 2) := by decide +kernel
theorem d_X5_writeMonomial_94 : decode prog_7_method_7_code 94 = .ok (.iaload, 1) := by decide +kernel
theorem d_X5_writeMonomial_95 : decode prog_7_method_7_code 95 = .ok (.imul, 1) := by decide +kernel
theorem d_X5_writeMonomial_96 : decode prog_7_method_7_code 96 = .ok (.isub, 1) := by decide +kernel
theorem d_X5_writeMonomial_97 : decode prog_7_method_7_code 97 = .ok (.aload_n 0, 1) := by decide +kernel
theorem d_X5_writeMonomial_98 : decode prog_7_method_7_code 98 = .ok (.getfield 15, 3) := by decide +kernel
theorem d_X5_writeMonomial_101 : decode prog_7_method_7_code 101 = .ok (.iload 5, 2) := by decide +kernel
theorem d_X5_writeMonomial_103 : decode prog_7_method_7_code 103 = .ok (.iaload, 1) := by decide +kernel
theorem d_X5_writeMonomial_104 : decode prog_7_method_7_code 104 = .ok (.invokestatic 59, 3) := by decide +kernel
theorem d_X5_writeMonomial_107 : decode prog_7_method_7_code 107 = .ok (.istore 4, 2) := by decide +kernel
theorem d_X5_writeMonomial_109 : decode prog_7_method_7_code 109 = .ok (.iinc 5 (-1), 3) := by decide +kernel
theorem d_X5_writeMonomial_112 : decode prog_7_method_7_code 112 = .ok (.goto (-94), 3) := by decide +kernel
theorem d_X5_writeMonomial_115 : decode prog_7_method_7_code 115 = .ok (.aload_n 3, 1) := by decide +kernel
theorem d_X5_writeMonomial_116 : decode prog_7_method_7_code 116 = .ok (.arraylength, 1) := by decide +kernel
theorem d_X5_writeMonomial_117 : decode prog_7_method_7_code 117 = .ok (.ifCond .le 8, 3) := by decide +kernel
theorem d_X5_writeMonomial_120 : decode prog_7_method_7_code 120 = .ok (.aload_n 3, 1) := by decide +kernel
theorem d_X5_writeMonomial_121 : decode prog_7_method_7_code 121 = .ok (.iconst 0, 1) := by decide +kernel
theorem d_X5_writeMonomial_122 : decode prog_7_method_7_code 122 = .ok (.iload 4, 2) := by decide +kernel
theorem d_X5_writeMonomial_124 : decode prog_7_method_7_code 124 = .ok (.iastore, 1) := by decide +kernel
theorem d_X5_writeMonomial_125 : decode prog_7_method_7_code 125 = .ok (.return_, 1) := by decide +kernel
def f_X5_writeMonomial_84 (rec_18 : Int → Int → tp_M → Option (tp_M)) (x3 : Int) (x4 : Int) (x5 : Int) (x6 : Int) (M0 : tp_M) : Option (tp_M) :=
  if 0 ≤ x5 ∧ x5 < 8 then
    if 0 ≤ x5 ∧ x5 < 8 then
      (f_X10_quotient (tp_w (x4 - (tp_w (x6 * (M0 282 x5))))) (M0 281 x5) M0).bind fun r10 =>
      tp_lt (tp_w (x5 + (-1))) fun y12 =>
      rec_18 r10 y12 M0 else none else none
set_option maxHeartbeats 4000000 in
set_option maxRecDepth 100000 in
theorem T_X5_writeMonomial_84 (G : tp_G) (rec_18 : Int → Int → tp_M → Option (tp_M)) (x3 : Int) (x4 : Int) (x5 : Int) (x6 : Int) (M0 : tp_M) (hrec_18 : ∀ (x4' x5' : Int) (M' : tp_M), tp_J i_X5_writeMonomial (tp_rm 1) G 0 0 o_X5_writeMonomial tp_NC (tp_st M') 0 0 [some (.inr (.inr 279)), none, none, some (.inr (.inr x3)), some (.inl (x4')), some (.inl (x5')), none] 18 [] (rec_18 x4' x5' M')) (hg_x3 : tp_tg x3 = 21) : tp_J i_X5_writeMonomial (tp_rm 1) G 0 0 o_X5_writeMonomial tp_NC (tp_st M0) 0 0 [some (.inr (.inr 279)), none, none, some (.inr (.inr x3)), some (.inl x4), some (.inl x5), some (.inl x6)] 84 [] (f_X5_writeMonomial_84 rec_18 x3 x4 x5 x6 M0) := by
  unfold f_X5_writeMonomial_84
  refine j_iload d_X5_writeMonomial_84 rfl ?_
  refine j_iload d_X5_writeMonomial_86 rfl ?_
  refine j_aload_n rfl d_X5_writeMonomial_88 rfl ?_
  refine j_getr fl_Path_18 tg_279 rv_279_2 d_X5_writeMonomial_89 ?_
  refine j_iload d_X5_writeMonomial_92 rfl ?_
  refine j_iald tg_282 al_282 d_X5_writeMonomial_94 ?_
  refine j_imul d_X5_writeMonomial_95 ?_
  refine j_isub d_X5_writeMonomial_96 ?_
  refine j_aload_n rfl d_X5_writeMonomial_97 rfl ?_
  refine j_getr fl_Path_15 tg_279 rv_279_1 d_X5_writeMonomial_98 ?_
  refine j_iload d_X5_writeMonomial_101 rfl ?_
  refine j_iald tg_281 al_281 d_X5_writeMonomial_103 ?_
  refine j_bind (fun r10 h11 => ?_)
  refine j_callSN (y := y_X10_quotient) (I' := i_X10_quotient) (avs := [.inl (tp_w (x4 - (tp_w (x6 * (M0 282 x5))))), .inl (M0 281 x5)]) (st := []) (c_X10_quotient G (tp_w (x4 - (tp_w (x6 * (M0 282 x5))))) (M0 281 x5) M0 r10 h11) cs_Path_59 (by decide +kernel : (.methodLinkNest "TypesAtPrime$Path" 59 ⟨"TypesAtPrime", "quotient", "(II)I"⟩ "TypesAtPrime" : Cond) ∈ tp_nest) wd_622 rfl rfl (Nat.le_of_ble_eq_true rfl) ⟨rfl, rfl⟩ ⟨by decide, by decide⟩ ⟨by decide, by decide⟩ d_X5_writeMonomial_104 ?_
  refine j_istore (lv' := [some (.inr (.inr 279)), none, none, some (.inr (.inr x3)), some (.inl r10), some (.inl x5), some (.inl x6)]) d_X5_writeMonomial_107 (Nat.le_of_ble_eq_true rfl) rfl ?_
  refine j_iincN (lv' := fun y12 => [some (.inr (.inr 279)), none, none, some (.inr (.inr x3)), some (.inl r10), some (.inl y12), some (.inl x6)]) d_X5_writeMonomial_109 rfl (Nat.le_of_ble_eq_true rfl) (fun _ => rfl) (fun y12 hy12 => ?_)
  refine j_goto (tgt := 18) d_X5_writeMonomial_112 (by decide) ?_
  exact j_wk [true, false, false, true, true, true, false] rfl rfl (hrec_18 r10 y12 M0)
def f_X5_writeMonomial_71 (rec_18 : Int → Int → tp_M → Option (tp_M)) (x3 : Int) (x4 : Int) (x5 : Int) (x6 : Int) (M0 : tp_M) : Option (tp_M) :=
  if (tp_al x3) ≤ x5 then
    f_X5_writeMonomial_84 rec_18 x3 x4 x5 x6 M0
  else
    if 0 ≤ x5 ∧ x5 < tp_al x3 then
      tp_mp (tp_up M0 x3 x5 x6) fun M13 =>
      f_X5_writeMonomial_84 rec_18 x3 x4 x5 x6 M13 else none
set_option maxHeartbeats 4000000 in
set_option maxRecDepth 100000 in
theorem T_X5_writeMonomial_71 (G : tp_G) (rec_18 : Int → Int → tp_M → Option (tp_M)) (x3 : Int) (x4 : Int) (x5 : Int) (x6 : Int) (M0 : tp_M) (hrec_18 : ∀ (x4' x5' : Int) (M' : tp_M), tp_J i_X5_writeMonomial (tp_rm 1) G 0 0 o_X5_writeMonomial tp_NC (tp_st M') 0 0 [some (.inr (.inr 279)), none, none, some (.inr (.inr x3)), some (.inl (x4')), some (.inl (x5')), none] 18 [] (rec_18 x4' x5' M')) (hg_x3 : tp_tg x3 = 21) : tp_J i_X5_writeMonomial (tp_rm 1) G 0 0 o_X5_writeMonomial tp_NC (tp_st M0) 0 0 [some (.inr (.inr 279)), none, none, some (.inr (.inr x3)), some (.inl x4), some (.inl x5), some (.inl x6)] 71 [] (f_X5_writeMonomial_71 rec_18 x3 x4 x5 x6 M0) := by
  unfold f_X5_writeMonomial_71
  refine j_iload d_X5_writeMonomial_71 rfl ?_
  refine j_aload_n rfl d_X5_writeMonomial_73 rfl ?_
  refine j_alen hg_x3 (by decide) rfl (tp_al_r _) (ty := .int) (by decide) d_X5_writeMonomial_74 ?_
  refine j_icmp_ge (tgt := 84) d_X5_writeMonomial_75 (by decide) (fun h9 => ?_) (fun h9 => ?_)
  · exact j_wk [true, false, false, true, true, true, true] rfl rfl (T_X5_writeMonomial_84 G rec_18 x3 x4 x5 x6 M0 hrec_18 hg_x3)
  · refine j_aload_n rfl d_X5_writeMonomial_78 rfl ?_
    refine j_iload d_X5_writeMonomial_79 rfl ?_
    refine j_iload d_X5_writeMonomial_81 rfl ?_
    refine j_iast hg_x3 rfl d_X5_writeMonomial_83 (fun M13 hM13 => ?_)
    exact j_wk [true, false, false, true, true, true, true] rfl rfl (T_X5_writeMonomial_84 G rec_18 x3 x4 x5 x6 M13 hrec_18 hg_x3)
def f_X5_writeMonomial_27B (rec_18 : Int → Int → tp_M → Option (tp_M)) (x3 : Int) (x4 : Int) (x5 : Int) (M0 : tp_M) (rec_27 : Int → Option (tp_M)) (x6 : Int) : Option (tp_M) :=
  if 0 ≤ x5 ∧ x5 < 8 then
    if (M0 281 x5) ≤ x6 then
      f_X5_writeMonomial_71 rec_18 x3 x4 x5 x6 M0
    else
      if 0 ≤ x5 ∧ x5 < 8 then
        if 0 ≤ x5 ∧ x5 < 8 then
          (f_X10_remainder (tp_w (x4 - (tp_w (x6 * (M0 282 x5))))) (M0 281 x5) M0).bind fun r14 =>
          if r14 = 0 then
            f_X5_writeMonomial_71 rec_18 x3 x4 x5 x6 M0
          else
            tp_lt (tp_w (x6 + 1)) fun y17 =>
            rec_27 y17 else none else none else none
set_option maxHeartbeats 4000000 in
set_option maxRecDepth 100000 in
theorem T_X5_writeMonomial_27B (G : tp_G) (rec_18 : Int → Int → tp_M → Option (tp_M)) (x3 : Int) (x4 : Int) (x5 : Int) (M0 : tp_M) (hrec_18 : ∀ (x4' x5' : Int) (M' : tp_M), tp_J i_X5_writeMonomial (tp_rm 1) G 0 0 o_X5_writeMonomial tp_NC (tp_st M') 0 0 [some (.inr (.inr 279)), none, none, some (.inr (.inr x3)), some (.inl (x4')), some (.inl (x5')), none] 18 [] (rec_18 x4' x5' M')) (hg_x3 : tp_tg x3 = 21) (rec_27 : Int → Option (tp_M)) (hrec_27 : ∀ (x6' : Int), tp_J i_X5_writeMonomial (tp_rm 1) G 0 0 o_X5_writeMonomial tp_NC (tp_st M0) 0 0 [some (.inr (.inr 279)), none, none, some (.inr (.inr x3)), some (.inl x4), some (.inl x5), some (.inl (x6'))] 27 [] (rec_27 x6')) (x6 : Int) : tp_J i_X5_writeMonomial (tp_rm 1) G 0 0 o_X5_writeMonomial tp_NC (tp_st M0) 0 0 [some (.inr (.inr 279)), none, none, some (.inr (.inr x3)), some (.inl x4), some (.inl x5), some (.inl x6)] 27 [] (f_X5_writeMonomial_27B rec_18 x3 x4 x5 M0 rec_27 x6) := by
  unfold f_X5_writeMonomial_27B
  refine j_iload d_X5_writeMonomial_27 rfl ?_
  refine j_aload_n rfl d_X5_writeMonomial_29 rfl ?_
  refine j_getr fl_Path_15 tg_279 rv_279_1 d_X5_writeMonomial_30 ?_
  refine j_iload d_X5_writeMonomial_33 rfl ?_
  refine j_iald tg_281 al_281 d_X5_writeMonomial_35 ?_
  refine j_icmp_ge (tgt := 71) d_X5_writeMonomial_36 (by decide) (fun h8 => ?_) (fun h8 => ?_)
  · exact j_wk [true, false, false, true, true, true, true] rfl rfl (T_X5_writeMonomial_71 G rec_18 x3 x4 x5 x6 M0 hrec_18 hg_x3)
  · refine j_iload d_X5_writeMonomial_39 rfl ?_
    refine j_iload d_X5_writeMonomial_41 rfl ?_
    refine j_aload_n rfl d_X5_writeMonomial_43 rfl ?_
    refine j_getr fl_Path_18 tg_279 rv_279_2 d_X5_writeMonomial_44 ?_
    refine j_iload d_X5_writeMonomial_47 rfl ?_
    refine j_iald tg_282 al_282 d_X5_writeMonomial_49 ?_
    refine j_imul d_X5_writeMonomial_50 ?_
    refine j_isub d_X5_writeMonomial_51 ?_
    refine j_aload_n rfl d_X5_writeMonomial_52 rfl ?_
    refine j_getr fl_Path_15 tg_279 rv_279_1 d_X5_writeMonomial_53 ?_
    refine j_iload d_X5_writeMonomial_56 rfl ?_
    refine j_iald tg_281 al_281 d_X5_writeMonomial_58 ?_
    refine j_bind (fun r14 h15 => ?_)
    refine j_callSN (y := y_X10_remainder) (I' := i_X10_remainder) (avs := [.inl (tp_w (x4 - (tp_w (x6 * (M0 282 x5))))), .inl (M0 281 x5)]) (st := []) (c_X10_remainder G (tp_w (x4 - (tp_w (x6 * (M0 282 x5))))) (M0 281 x5) M0 r14 h15) cs_Path_63 (by decide +kernel : (.methodLinkNest "TypesAtPrime$Path" 63 ⟨"TypesAtPrime", "remainder", "(II)I"⟩ "TypesAtPrime" : Cond) ∈ tp_nest) wd_619 rfl rfl (Nat.le_of_ble_eq_true rfl) ⟨rfl, rfl⟩ ⟨by decide, by decide⟩ ⟨by decide, by decide⟩ d_X5_writeMonomial_59 ?_
    refine j_if_eq (tgt := 71) d_X5_writeMonomial_62 (by decide) (fun h16 => ?_) (fun h16 => ?_)
    · exact j_wk [true, false, false, true, true, true, true] rfl rfl (T_X5_writeMonomial_71 G rec_18 x3 x4 x5 x6 M0 hrec_18 hg_x3)
    · refine j_iincN (lv' := fun y17 => [some (.inr (.inr 279)), none, none, some (.inr (.inr x3)), some (.inl x4), some (.inl x5), some (.inl y17)]) d_X5_writeMonomial_65 rfl (Nat.le_of_ble_eq_true rfl) (fun _ => rfl) (fun y17 hy17 => ?_)
      refine j_goto (tgt := 27) d_X5_writeMonomial_68 (by decide) ?_
      exact j_wk [true, false, false, true, true, true, true] rfl rfl (hrec_27 y17)
def f_X5_writeMonomial_27 (rec_18 : Int → Int → tp_M → Option (tp_M)) (x3 : Int) (x4 : Int) (x5 : Int) (x6 : Int) (M0 : tp_M) : Option (tp_M) := tp_lp (σ := Int) (fun rec_ u => f_X5_writeMonomial_27B rec_18 x3 x4 x5 M0 (fun x6' => rec_ x6') u) tp_N x6
set_option maxHeartbeats 4000000 in
set_option maxRecDepth 100000 in
theorem T_X5_writeMonomial_27 (G : tp_G) (rec_18 : Int → Int → tp_M → Option (tp_M)) (x3 : Int) (x4 : Int) (x5 : Int) (x6 : Int) (M0 : tp_M) (hrec_18 : ∀ (x4' x5' : Int) (M' : tp_M), tp_J i_X5_writeMonomial (tp_rm 1) G 0 0 o_X5_writeMonomial tp_NC (tp_st M') 0 0 [some (.inr (.inr 279)), none, none, some (.inr (.inr x3)), some (.inl (x4')), some (.inl (x5')), none] 18 [] (rec_18 x4' x5' M')) (hg_x3 : tp_tg x3 = 21) : tp_J i_X5_writeMonomial (tp_rm 1) G 0 0 o_X5_writeMonomial tp_NC (tp_st M0) 0 0 [some (.inr (.inr 279)), none, none, some (.inr (.inr x3)), some (.inl x4), some (.inl x5), some (.inl x6)] 27 [] (f_X5_writeMonomial_27 rec_18 x3 x4 x5 x6 M0) := by
  unfold f_X5_writeMonomial_27
  exact j_lp (σ := Int) (n' := fun _ => tp_NC) (g' := fun u => tp_st M0) (k' := fun _ => 0) (q' := fun _ => 0) (lv' := fun u => [some (.inr (.inr 279)), none, none, some (.inr (.inr x3)), some (.inl x4), some (.inl x5), some (.inl u)]) (fun rec_ hrec u => T_X5_writeMonomial_27B G rec_18 x3 x4 x5 M0 hrec_18 hg_x3 (fun x6' => rec_ x6') (fun x6' => hrec x6') u) tp_N x6
def f_X5_writeMonomial_18B (x3 : Int) (rec_18 : Int → Int → tp_M → Option (tp_M)) (x4 : Int) (x5 : Int) (M0 : tp_M) : Option (tp_M) :=
  if x5 < 1 then
    if (tp_al x3) ≤ 0 then
      some M0
    else
      if (0 : Int) ≤ 0 ∧ 0 < tp_al x3 then
        tp_mp (tp_up M0 x3 0 x4) fun M7 =>
        some M7 else none
  else
    f_X5_writeMonomial_27 rec_18 x3 x4 x5 0 M0
set_option maxHeartbeats 4000000 in
set_option maxRecDepth 100000 in
theorem T_X5_writeMonomial_18B (G : tp_G) (x3 : Int) (hg_x3 : tp_tg x3 = 21) (rec_18 : Int → Int → tp_M → Option (tp_M)) (hrec_18 : ∀ (x4' x5' : Int) (M' : tp_M), tp_J i_X5_writeMonomial (tp_rm 1) G 0 0 o_X5_writeMonomial tp_NC (tp_st M') 0 0 [some (.inr (.inr 279)), none, none, some (.inr (.inr x3)), some (.inl (x4')), some (.inl (x5')), none] 18 [] (rec_18 x4' x5' M')) (x4 : Int) (x5 : Int) (M0 : tp_M) : tp_J i_X5_writeMonomial (tp_rm 1) G 0 0 o_X5_writeMonomial tp_NC (tp_st M0) 0 0 [some (.inr (.inr 279)), none, none, some (.inr (.inr x3)), some (.inl x4), some (.inl x5), none] 18 [] (f_X5_writeMonomial_18B x3 rec_18 x4 x5 M0) := by
  unfold f_X5_writeMonomial_18B
  refine j_iload d_X5_writeMonomial_18 rfl ?_
  refine j_iconst ⟨by decide, by decide⟩ d_X5_writeMonomial_20 ?_
  refine j_icmp_lt (tgt := 115) d_X5_writeMonomial_21 (by decide) (fun h5 => ?_) (fun h5 => ?_)
  · refine j_aload_n rfl d_X5_writeMonomial_115 rfl ?_
    refine j_alen hg_x3 (by decide) rfl (tp_al_r _) (ty := .int) (by decide) d_X5_writeMonomial_116 ?_
    refine j_if_le (tgt := 125) d_X5_writeMonomial_117 (by decide) (fun h6 => ?_) (fun h6 => ?_)
    · exact j_vret d_X5_writeMonomial_125 rfl rfl ⟨rfl, rfl⟩
    · refine j_aload_n rfl d_X5_writeMonomial_120 rfl ?_
      refine j_iconst ⟨by decide, by decide⟩ d_X5_writeMonomial_121 ?_
      refine j_iload d_X5_writeMonomial_122 rfl ?_
      refine j_iast hg_x3 rfl d_X5_writeMonomial_124 (fun M7 hM7 => ?_)
      exact j_vret d_X5_writeMonomial_125 rfl rfl ⟨rfl, rfl⟩
  · refine j_iconst ⟨by decide, by decide⟩ d_X5_writeMonomial_24 ?_
    refine j_istore (lv' := [some (.inr (.inr 279)), none, none, some (.inr (.inr x3)), some (.inl x4), some (.inl x5), some (.inl 0)]) d_X5_writeMonomial_25 (Nat.le_of_ble_eq_true rfl) rfl ?_
    exact j_wk [true, false, false, true, true, true, true] rfl rfl (T_X5_writeMonomial_27 G rec_18 x3 x4 x5 0 M0 hrec_18 hg_x3)
def f_X5_writeMonomial_18 (x3 : Int) (x4 : Int) (x5 : Int) (M0 : tp_M) : Option (tp_M) := tp_lp (σ := Int × Int × tp_M) (fun rec_ u => f_X5_writeMonomial_18B x3 (fun x4' x5' M0' => rec_ (x4', x5', M0')) u.1 u.2.1 u.2.2) tp_N (x4, x5, M0)
set_option maxHeartbeats 4000000 in
set_option maxRecDepth 100000 in
theorem T_X5_writeMonomial_18 (G : tp_G) (x3 : Int) (x4 : Int) (x5 : Int) (M0 : tp_M) (hg_x3 : tp_tg x3 = 21) : tp_J i_X5_writeMonomial (tp_rm 1) G 0 0 o_X5_writeMonomial tp_NC (tp_st M0) 0 0 [some (.inr (.inr 279)), none, none, some (.inr (.inr x3)), some (.inl x4), some (.inl x5), none] 18 [] (f_X5_writeMonomial_18 x3 x4 x5 M0) := by
  unfold f_X5_writeMonomial_18
  exact j_lp (σ := Int × Int × tp_M) (n' := fun _ => tp_NC) (g' := fun u => tp_st u.2.2) (k' := fun _ => 0) (q' := fun _ => 0) (lv' := fun u => [some (.inr (.inr 279)), none, none, some (.inr (.inr x3)), some (.inl u.1), some (.inl u.2.1), none]) (fun rec_ hrec u => T_X5_writeMonomial_18B G x3 hg_x3 (fun x4' x5' M0' => rec_ (x4', x5', M0')) (fun x4' x5' M0' => hrec (x4', x5', M0')) u.1 u.2.1 u.2.2) tp_N (x4, x5, M0)
def f_X5_writeMonomial (a0 : Int) (a1 : Int) (a2 : Int) (M0 : tp_M) : Option (tp_M) :=
  if tp_tg a2 = 21 then
    (f_J7_fill_53178 a2 0 M0).bind fun r2 =>
    tp_lt ((min (tp_w (a1 - 1)) 6)) fun y4 =>
    f_X5_writeMonomial_18 a2 a0 y4 r2 else none
set_option maxHeartbeats 4000000 in
set_option maxRecDepth 100000 in
theorem T_X5_writeMonomial (G : tp_G) (a0 : Int) (a1 : Int) (a2 : Int) (M0 : tp_M) : tp_J i_X5_writeMonomial (tp_rm 1) G 0 0 o_X5_writeMonomial tp_NC (tp_st M0) 0 0 [some (.inr (.inr 279)), some (.inl a0), some (.inl a1), some (.inr (.inr a2)), none, none, none] 0 [] (f_X5_writeMonomial a0 a1 a2 M0) := by
  unfold f_X5_writeMonomial
  refine tp_chk (fun ht1 => ?_)
  refine j_aload_n rfl d_X5_writeMonomial_0 rfl ?_
  refine j_iconst ⟨by decide, by decide⟩ d_X5_writeMonomial_1 ?_
  refine j_bind (fun r2 h3 => ?_)
  refine j_callS (y := y_J7_fill_53178) (I' := i_J7_fill_53178) (avs := [.inr (.inr a2), .inl 0]) (st := []) (c_J7_fill_53178 G a2 0 M0 r2 h3) cs_Path_69 wd_766 wd_485 rfl rfl (Nat.le_of_ble_eq_true rfl) ⟨rfl, rfl⟩ ⟨by decide, by decide⟩ ⟨by decide, by decide⟩ d_X5_writeMonomial_2 ?_
  refine j_iload_n rfl d_X5_writeMonomial_5 rfl ?_
  refine j_istore (lv' := [some (.inr (.inr 279)), some (.inl a0), some (.inl a1), some (.inr (.inr a2)), some (.inl a0), none, none]) d_X5_writeMonomial_6 (Nat.le_of_ble_eq_true rfl) rfl ?_
  refine j_iload_n rfl d_X5_writeMonomial_8 rfl ?_
  refine j_iconst ⟨by decide, by decide⟩ d_X5_writeMonomial_9 ?_
  refine j_isub d_X5_writeMonomial_10 ?_
  refine j_bipush ⟨by decide, by decide⟩ (by decide +kernel) d_X5_writeMonomial_11 ?_
  refine j_mmin wd_767 wd_482 wd_13 wd_483 ⟨(by decide : 1 ≤ ((tp_rm 1) : Room).frames), (by decide : 40 ≤ ((tp_rm 1) : Room).locals)⟩ ⟨by decide, by decide⟩ (Nat.le_of_ble_eq_true rfl) d_X5_writeMonomial_13 ?_
  refine j_nmI (fun y4 hy4 => ?_)
  refine j_istore (lv' := [some (.inr (.inr 279)), some (.inl a0), some (.inl a1), some (.inr (.inr a2)), some (.inl a0), some (.inl y4), none]) d_X5_writeMonomial_16 (Nat.le_of_ble_eq_true rfl) rfl ?_
  exact j_wk [true, false, false, true, true, true, false] rfl rfl (T_X5_writeMonomial_18 G a2 a0 y4 r2 ht1)
set_option maxHeartbeats 4000000 in
set_option maxRecDepth 100000 in
theorem c_X5_writeMonomial (G : tp_G) (a0 : Int) (a1 : Int) (a2 : Int) (M0 : tp_M) (r : tp_M) (h : f_X5_writeMonomial a0 a1 a2 M0 = some r) (l : Launch) : Met l y_X5_writeMonomial (tp_ws y_X5_writeMonomial i_X5_writeMonomial) (tp_rm 1) (tp_Pc G [.inr (.inr 279), .inl a0, .inl a1, .inr (.inr a2)] tp_NC (tp_st M0)) (tp_Q G (o_X5_writeMonomial r)) 0 0 (tp_A G) :=
  tp_met (I := i_X5_writeMonomial) (y := y_X5_writeMonomial) (by decide +kernel) (Eq.refl "TypesAtPrime$Path") (Eq.refl "writeMonomial") (lv := [some (.inr (.inr 279)), some (.inl a0), some (.inl a1), some (.inr (.inr a2)), none, none, none]) rfl (Nat.le_of_ble_eq_true rfl) (T_X5_writeMonomial G a0 a1 a2 M0) h l
theorem wd_223 : (.fieldLink "TypesAtPrime$Grower" 279 "TypesAtPrime$Side" "begin" "I" : Cond) ∈ lw_tbl := List.mem_append_right _ (List.mem_of_getElem? (i := 223) (by decide +kernel))
theorem fl_Grower_279 : tp_F "TypesAtPrime$Grower" 279 7 0 0 := ⟨_, _, _, rfl, by decide, rfl, wd_223, rfl, by decide⟩
theorem pf_7_0 (v : Int) : ∀ (C : String) (T : u_T) (N : Nat), vwCl[7]? = some (C, T, N) → (T 0).2.2.2 = false ∧ ∀ G : tp_G, ∃ ty, parseFieldDescriptor (T 0).2.2.1 = some ty ∧ narrow ty (tp_enc G (tp_zv 0 v)) = tp_enc G (tp_zv 0 v) ∧ fits ty (tp_enc G (tp_zv 0 v)) = true := by
  intro C T N h
  cases h
  exact ⟨rfl, fun G => ⟨_, tyX7_ok 0 (by decide), rfl, rfl⟩⟩
theorem pt_7 : ∃ ty0 : Nat → FieldType, ∀ (C : String) (T : u_T) (N : Nat), vwCl[7]? = some (C, T, N) → (∀ k, k < N → parseFieldDescriptor (T k).2.2.1 = some (ty0 k)) ∧ ∀ a, a < N → ∀ b, b < N → a ≠ b → (T a).2.1 ≠ (T b).2.1 := ⟨tyX7, fun C T N h => by cases h; exact ⟨tyX7_ok, nmX7⟩⟩
theorem wd_225 : (.fieldLink "TypesAtPrime$Grower" 282 "TypesAtPrime$Side" "end" "I" : Cond) ∈ lw_tbl := List.mem_append_right _ (List.mem_of_getElem? (i := 225) (by decide +kernel))
theorem fl_Grower_282 : tp_F "TypesAtPrime$Grower" 282 7 1 0 := ⟨_, _, _, rfl, by decide, rfl, wd_225, rfl, by decide⟩
theorem pf_7_1 (v : Int) : ∀ (C : String) (T : u_T) (N : Nat), vwCl[7]? = some (C, T, N) → (T 1).2.2.2 = false ∧ ∀ G : tp_G, ∃ ty, parseFieldDescriptor (T 1).2.2.1 = some ty ∧ narrow ty (tp_enc G (tp_zv 0 v)) = tp_enc G (tp_zv 0 v) ∧ fits ty (tp_enc G (tp_zv 0 v)) = true := by
  intro C T N h
  cases h
  exact ⟨rfl, fun G => ⟨_, tyX7_ok 1 (by decide), rfl, rfl⟩⟩
theorem wd_227 : (.fieldLink "TypesAtPrime$Grower" 285 "TypesAtPrime$Side" "fall" "I" : Cond) ∈ lw_tbl := List.mem_append_right _ (List.mem_of_getElem? (i := 227) (by decide +kernel))
theorem fl_Grower_285 : tp_F "TypesAtPrime$Grower" 285 7 2 0 := ⟨_, _, _, rfl, by decide, rfl, wd_227, rfl, by decide⟩
theorem pf_7_2 (v : Int) : ∀ (C : String) (T : u_T) (N : Nat), vwCl[7]? = some (C, T, N) → (T 2).2.2.2 = false ∧ ∀ G : tp_G, ∃ ty, parseFieldDescriptor (T 2).2.2.1 = some ty ∧ narrow ty (tp_enc G (tp_zv 0 v)) = tp_enc G (tp_zv 0 v) ∧ fits ty (tp_enc G (tp_zv 0 v)) = true := by
  intro C T N h
  cases h
  exact ⟨rfl, fun G => ⟨_, tyX7_ok 2 (by decide), rfl, rfl⟩⟩
theorem wd_760 : (.code ⟨"TypesAtPrime", "greatestDivisor", "(II)I"⟩ prog_1_method_49_code 6 (some .int) : Cond) ∈ lw_tbl := List.mem_append_right _ (List.mem_of_getElem? (i := 760) (by decide +kernel))
theorem cs_Grower_288 : tp_CS "TypesAtPrime$Grower" 288 y_X10_greatestDivisor i_X10_greatestDivisor 2 := ⟨wd_760, wd_1, by decide, by decide, by decide +kernel⟩
theorem wd_759 : (.static ⟨"TypesAtPrime", "greatestDivisor", "(II)I"⟩ : Cond) ∈ lw_tbl := List.mem_append_right _ (List.mem_of_getElem? (i := 759) (by decide +kernel))
theorem wd_232 : (.fieldLink "TypesAtPrime$Grower" 291 "TypesAtPrime$Side" "parts" "I" : Cond) ∈ lw_tbl := List.mem_append_right _ (List.mem_of_getElem? (i := 232) (by decide +kernel))
theorem fl_Grower_291 : tp_F "TypesAtPrime$Grower" 291 7 4 0 := ⟨_, _, _, rfl, by decide, rfl, wd_232, rfl, by decide⟩
theorem pf_7_4 (v : Int) : ∀ (C : String) (T : u_T) (N : Nat), vwCl[7]? = some (C, T, N) → (T 4).2.2.2 = false ∧ ∀ G : tp_G, ∃ ty, parseFieldDescriptor (T 4).2.2.1 = some ty ∧ narrow ty (tp_enc G (tp_zv 0 v)) = tp_enc G (tp_zv 0 v) ∧ fits ty (tp_enc G (tp_zv 0 v)) = true := by
  intro C T N h
  cases h
  exact ⟨rfl, fun G => ⟨_, tyX7_ok 4 (by decide), rfl, rfl⟩⟩
theorem cs_Grower_293 : tp_CS "TypesAtPrime$Grower" 293 y_X10_quotient i_X10_quotient 2 := ⟨wd_623, wd_1, by decide, by decide, by decide +kernel⟩
theorem wd_230 : (.fieldLink "TypesAtPrime$Grower" 171 "TypesAtPrime$Side" "ramification" "I" : Cond) ∈ lw_tbl := List.mem_append_right _ (List.mem_of_getElem? (i := 230) (by decide +kernel))
theorem fl_Grower_171 : tp_F "TypesAtPrime$Grower" 171 7 3 0 := ⟨_, _, _, rfl, by decide, rfl, wd_230, rfl, by decide⟩
theorem pf_7_3 (v : Int) : ∀ (C : String) (T : u_T) (N : Nat), vwCl[7]? = some (C, T, N) → (T 3).2.2.2 = false ∧ ∀ G : tp_G, ∃ ty, parseFieldDescriptor (T 3).2.2.1 = some ty ∧ narrow ty (tp_enc G (tp_zv 0 v)) = tp_enc G (tp_zv 0 v) ∧ fits ty (tp_enc G (tp_zv 0 v)) = true := by
  intro C T N h
  cases h
  exact ⟨rfl, fun G => ⟨_, tyX7_ok 3 (by decide), rfl, rfl⟩⟩
theorem wd_235 : (.fieldLink "TypesAtPrime$Grower" 296 "TypesAtPrime$Side" "slopeValue" "I" : Cond) ∈ lw_tbl := List.mem_append_right _ (List.mem_of_getElem? (i := 235) (by decide +kernel))
theorem fl_Grower_296 : tp_F "TypesAtPrime$Grower" 296 7 5 0 := ⟨_, _, _, rfl, by decide, rfl, wd_235, rfl, by decide⟩
theorem pf_7_5 (v : Int) : ∀ (C : String) (T : u_T) (N : Nat), vwCl[7]? = some (C, T, N) → (T 5).2.2.2 = false ∧ ∀ G : tp_G, ∃ ty, parseFieldDescriptor (T 5).2.2.1 = some ty ∧ narrow ty (tp_enc G (tp_zv 0 v)) = tp_enc G (tp_zv 0 v) ∧ fits ty (tp_enc G (tp_zv 0 v)) = true := by
  intro C T N h
  cases h
  exact ⟨rfl, fun G => ⟨_, tyX7_ok 5 (by decide), rfl, rfl⟩⟩
theorem wd_239 : (.fieldLink "TypesAtPrime$Grower" 299 "TypesAtPrime$Side" "monomial" "[I" : Cond) ∈ lw_tbl := List.mem_append_right _ (List.mem_of_getElem? (i := 239) (by decide +kernel))
theorem fl_Grower_299 : tp_F "TypesAtPrime$Grower" 299 7 6 2 := ⟨_, _, _, rfl, by decide, rfl, wd_239, rfl, by decide⟩
theorem fam_7_6 : ∀ c : Int, tp_tg c = 7 → tp_rv c 6 = c + 1 ∧ tp_tg (c + 1) = 21 ∧ tp_al (c + 1) = 8 := by
  intro c hc
  obtain ⟨h0, xs, -, h2⟩ := tp_tg_at (t := 7) hc
  have h : (List.range tp_NC).all (fun i => decide (tp_tg (i : Int) = 7 → tp_rv (i : Int) 6 = (i : Int) + 1 ∧ tp_tg ((i : Int) + 1) = 21 ∧ tp_al ((i : Int) + 1) = 8)) = true := by decide +kernel
  have h3 := List.all_eq_true.mp h c.toNat (List.mem_range.mpr h2)
  have h4 : ((c.toNat : Nat) : Int) = c := by omega
  rw [h4] at h3
  exact of_decide_eq_true h3 hc
theorem wd_765 : (.code ⟨"TypesAtPrime$Path", "writeMonomial", "(II[I)V"⟩ prog_7_method_7_code 7 (none : Option Jvm.ClassFile.FieldType) : Cond) ∈ lw_tbl := List.mem_append_right _ (List.mem_of_getElem? (i := 765) (by decide +kernel))
theorem cs_Grower_301 : tp_CS "TypesAtPrime$Grower" 301 y_X5_writeMonomial i_X5_writeMonomial 3 := ⟨wd_765, wd_11, by decide, by decide, by decide +kernel⟩
theorem wd_762 : (.methodLink "TypesAtPrime$Grower" 301 ⟨"TypesAtPrime$Path", "writeMonomial", "(II[I)V"⟩ : Cond) ∈ lw_tbl := List.mem_append_right _ (List.mem_of_getElem? (i := 762) (by decide +kernel))
theorem wd_763 : (.instanceMethod ⟨"TypesAtPrime$Path", "writeMonomial", "(II[I)V"⟩ : Cond) ∈ lw_tbl := List.mem_append_right _ (List.mem_of_getElem? (i := 763) (by decide +kernel))
theorem wd_764 : (.selects "TypesAtPrime$Path" ⟨"TypesAtPrime$Path", "writeMonomial", "(II[I)V"⟩ ⟨"TypesAtPrime$Path", "writeMonomial", "(II[I)V"⟩ : Cond) ∈ lw_tbl := List.mem_append_right _ (List.mem_of_getElem? (i := 764) (by decide +kernel))
def y_X1_measureSide : MethodName := ⟨"TypesAtPrime$Grower", "measureSide", "(LTypesAtPrime$Knot;LTypesAtPrime$Side;II)V"⟩
abbrev i_X1_measureSide : tp_I := (prog_3_method_13_code, "TypesAtPrime$Grower", none, 5, "measureSide")
abbrev o_X1_measureSide : tp_M → tp_O := fun r => (none, tp_NC, tp_st r)
theorem d_X1_measureSide_0 : decode prog_3_method_13_code 0 = .ok (.iload_n 3, 1) := by decide +kernel
theorem d_X1_measureSide_1 : decode prog_3_method_13_code 1 = .ok (.invokestatic 244, 3) := by decide +kernel
theorem d_X1_measureSide_4 : decode prog_3_method_13_code 4 = .ok (.ifCond .eq 11, 3) := by decide +kernel
theorem d_X1_measureSide_7 : decode prog_3_method_13_code 7 = .ok (.iload 4, 2) := by decide +kernel
theorem d_X1_measureSide_9 : decode prog_3_method_13_code 9 = .ok (.invokestatic 244, 3) := by decide +kernel
theorem d_X1_measureSide_12 : decode prog_3_method_13_code 12 = .ok (.ifCond .ne 4, 3) := by decide +kernel
theorem d_X1_measureSide_15 : decode prog_3_method_13_code 15 = .ok (.return_, 1) := by decide +kernel
theorem d_X1_measureSide_16 : decode prog_3_method_13_code 16 = .ok (.aload_n 2, 1) := by decide +kernel
theorem d_X1_measureSide_17 : decode prog_3_method_13_code 17 = .ok (.iload_n 3, 1) := by decide +kernel
theorem d_X1_measureSide_18 : decode prog_3_method_13_code 18 = .ok (.putfield 279, 3) := by decide +kernel
theorem d_X1_measureSide_21 : decode prog_3_method_13_code 21 = .ok (.aload_n 2, 1) := by decide +kernel
theorem d_X1_measureSide_22 : decode prog_3_method_13_code 22 = .ok (.iload 4, 2) := by decide +kernel
theorem d_X1_measureSide_24 : decode prog_3_method_13_code 24 = .ok (.putfield 282, 3) := by decide +kernel
theorem d_X1_measureSide_27 : decode prog_3_method_13_code 27 = .ok (.aload_n 2, 1) := by decide +kernel
theorem d_X1_measureSide_28 : decode prog_3_method_13_code 28 = .ok (.aload_n 1, 1) := by decide +kernel
theorem d_X1_measureSide_29 : decode prog_3_method_13_code 29 = .ok (.getfield 228, 3) := by decide +kernel
theorem d_X1_measureSide_32 : decode prog_3_method_13_code 32 = .ok (.iload_n 3, 1) := by decide +kernel
theorem d_X1_measureSide_33 : decode prog_3_method_13_code 33 = .ok (.iaload, 1) := by decide +kernel
theorem d_X1_measureSide_34 : decode prog_3_method_13_code 34 = .ok (.aload_n 1, 1) := by decide +kernel
theorem d_X1_measureSide_35 : decode prog_3_method_13_code 35 = .ok (.getfield 228, 3) := by decide +kernel
theorem d_X1_measureSide_38 : decode prog_3_method_13_code 38 = .ok (.iload 4, 2) := by decide +kernel
theorem d_X1_measureSide_40 : decode prog_3_method_13_code 40 = .ok (.iaload, 1) := by decide +kernel
theorem d_X1_measureSide_41 : decode prog_3_method_13_code 41 = .ok (.isub, 1) := by decide +kernel
theorem d_X1_measureSide_42 : decode prog_3_method_13_code 42 = .ok (.putfield 285, 3) := by decide +kernel
theorem d_X1_measureSide_45 : decode prog_3_method_13_code 45 = .ok (.aload_n 2, 1) := by decide +kernel
theorem d_X1_measureSide_46 : decode prog_3_method_13_code 46 = .ok (.iload 4, 2) := by decide +kernel
theorem d_X1_measureSide_48 : decode prog_3_method_13_code 48 = .ok (.iload_n 3, 1) := by decide +kernel
theorem d_X1_measureSide_49 : decode prog_3_method_13_code 49 = .ok (.isub, 1) := by decide +kernel
theorem d_X1_measureSide_50 : decode prog_3_method_13_code 50 = .ok (.aload_n 2, 1) := by decide +kernel
theorem d_X1_measureSide_51 : decode prog_3_method_13_code 51 = .ok (.getfield 285, 3) := by decide +kernel
theorem d_X1_measureSide_54 : decode prog_3_method_13_code 54 = .ok (.invokestatic 288, 3) := by decide +kernel
theorem d_X1_measureSide_57 : decode prog_3_method_13_code 57 = .ok (.putfield 291, 3) := by decide +kernel
theorem d_X1_measureSide_60 : decode prog_3_method_13_code 60 = .ok (.aload_n 2, 1) := by decide +kernel
theorem d_X1_measureSide_61 : decode prog_3_method_13_code 61 = .ok (.iload 4, 2) := by decide +kernel
theorem d_X1_measureSide_63 : decode prog_3_method_13_code 63 = .ok (.iload_n 3, 1) := by decide +kernel
theorem d_X1_measureSide_64 : decode prog_3_method_13_code 64 = .ok (.isub, 1) := by decide +kernel
theorem d_X1_measureSide_65 : decode prog_3_method_13_code 65 = .ok (.aload_n 2, 1) := by decide +kernel
theorem d_X1_measureSide_66 : decode prog_3_method_13_code 66 = .ok (.getfield 291, 3) := by decide +kernel
theorem d_X1_measureSide_69 : decode prog_3_method_13_code 69 = .ok (.invokestatic 293, 3) := by decide +kernel
theorem d_X1_measureSide_72 : decode prog_3_method_13_code 72 = .ok (.putfield 171, 3) := by decide +kernel
theorem d_X1_measureSide_75 : decode prog_3_method_13_code 75 = .ok (.aload_n 2, 1) := by decide +kernel
theorem d_X1_measureSide_76 : decode prog_3_method_13_code 76 = .ok (.aload_n 0, 1) := by decide +kernel
theorem d_X1_measureSide_77 : decode prog_3_method_13_code 77 = .ok (.getfield 12, 3) := by decide +kernel
theorem d_X1_measureSide_80 : decode prog_3_method_13_code 80 = .ok (.aload_n 1, 1) := by decide +kernel
theorem d_X1_measureSide_81 : decode prog_3_method_13_code 81 = .ok (.getfield 177, 3) := by decide +kernel
theorem d_X1_measureSide_84 : decode prog_3_method_13_code 84 = .ok (.invokevirtual 212, 3) := by decide +kernel
theorem d_X1_measureSide_87 : decode prog_3_method_13_code 87 = .ok (.aload_n 2, 1) := by decide +kernel
theorem d_X1_measureSide_88 : decode prog_3_method_13_code 88 = .ok (.getfield 171, 3) := by decide +kernel
theorem d_X1_measureSide_91 : decode prog_3_method_13_code 91 = .ok (.imul, 1) := by decide +kernel
theorem d_X1_measureSide_92 : decode prog_3_method_13_code 92 = .ok (.aload_n 2, 1) := by decide +kernel
theorem d_X1_measureSide_93 : decode prog_3_method_13_code 93 = .ok (.getfield 285, 3) := by decide +kernel
theorem d_X1_measureSide_96 : decode prog_3_method_13_code 96 = .ok (.aload_n 2, 1) := by decide +kernel
theorem d_X1_measureSide_97 : decode prog_3_method_13_code 97 = .ok (.getfield 291, 3) := by decide +kernel
theorem d_X1_measureSide_100 : decode prog_3_method_13_code 100 = .ok (.invokestatic 293, 3) := by decide +kernel
theorem d_X1_measureSide_103 : decode prog_3_method_13_code 103 = .ok (.iadd, 1) := by decide +kernel
theorem d_X1_measureSide_104 : decode prog_3_method_13_code 104 = .ok (.putfield 296, 3) := by decide +kernel
theorem d_X1_measureSide_107 : decode prog_3_method_13_code 107 = .ok (.aload_n 0, 1) := by decide +kernel
theorem d_X1_measureSide_108 : decode prog_3_method_13_code 108 = .ok (.getfield 12, 3) := by decide +kernel
theorem d_X1_measureSide_111 : decode prog_3_method_13_code 111 = .ok (.aload_n 2, 1) := by decide +kernel
theorem d_X1_measureSide_112 : decode prog_3_method_13_code 112 = .ok (.getfield 296, 3) := by decide +kernel
theorem d_X1_measureSide_115 : decode prog_3_method_13_code 115 = .ok (.aload_n 1, 1) := by decide +kernel
theorem d_X1_measureSide_116 : decode prog_3_method_13_code 116 = .ok (.getfield 177, 3) := by decide +kernel
theorem d_X1_measureSide_119 : decode prog_3_method_13_code 119 = .ok (.aload_n 2, 1) := by decide +kernel
theorem d_X1_measureSide_120 : decode prog_3_method_13_code 120 = .ok (.getfield 299, 3) := by decide +kernel
theorem d_X1_measureSide_123 : decode prog_3_method_13_code 123 = .ok (.invokevirtual 301, 3) := by decide +kernel
theorem d_X1_measureSide_126 : decode prog_3_method_13_code 126 = .ok (.return_, 1) := by decide +kernel
def f_X1_measureSide (a0 : Int) (a1 : Int) (a2 : Int) (a3 : Int) (M0 : tp_M) : Option (tp_M) :=
  if tp_tg a0 = 2 then
    if tp_tg a1 = 7 then
      (f_X10_isPower a2 M0).bind fun r3 =>
      if r3 = 0 then
        some M0
      else
        (f_X10_isPower a3 M0).bind fun r6 =>
        if ¬ r6 = 0 then
          tp_mp (tp_up M0 a1 0 a2) fun M9 =>
          tp_mp (tp_up M9 a1 1 a3) fun M10 =>
          if 0 ≤ a2 ∧ a2 < 9 then
            if 0 ≤ a3 ∧ a3 < 9 then
              tp_mp (tp_up M10 a1 2 (tp_w ((M10 (a0 + 2) a2) - (M10 (a0 + 2) a3)))) fun M11 =>
              (f_X10_greatestDivisor (tp_w (a3 - a2)) (M11 a1 2) M11).bind fun r12 =>
              tp_mp (tp_up M11 a1 4 r12) fun M14 =>
              (f_X10_quotient (tp_w (a3 - a2)) (M14 a1 4) M14).bind fun r15 =>
              tp_mp (tp_up M14 a1 3 r15) fun M17 =>
              (f_X5_lift (M17 a0 0) M17).bind fun r18 =>
              (f_X10_quotient (M17 a1 2) (M17 a1 4) M17).bind fun r20 =>
              tp_mp (tp_up M17 a1 5 (tp_w ((tp_w (r18 * (M17 a1 3))) + r20))) fun M22 =>
              (f_X5_writeMonomial (M22 a1 5) (M22 a0 0) (a1 + 1) M22).bind fun r23 =>
              some r23 else none else none
        else
          some M0 else none else none
set_option maxHeartbeats 4000000 in
set_option maxRecDepth 100000 in
theorem T_X1_measureSide (G : tp_G) (a0 : Int) (a1 : Int) (a2 : Int) (a3 : Int) (M0 : tp_M) : tp_J i_X1_measureSide (tp_rm 2) G 0 0 o_X1_measureSide tp_NC (tp_st M0) 0 0 [some (.inr (.inr 278)), some (.inr (.inr a0)), some (.inr (.inr a1)), some (.inl a2), some (.inl a3)] 0 [] (f_X1_measureSide a0 a1 a2 a3 M0) := by
  unfold f_X1_measureSide
  refine tp_chk (fun ht1 => ?_)
  refine tp_chk (fun ht2 => ?_)
  refine j_iload_n rfl d_X1_measureSide_0 rfl ?_
  refine j_bind (fun r3 h4 => ?_)
  refine j_callSN (y := y_X10_isPower) (I' := i_X10_isPower) (avs := [.inl a2]) (st := []) (c_X10_isPower G a2 M0 r3 h4) cs_Grower_244 (by decide +kernel : (.methodLinkNest "TypesAtPrime$Grower" 244 ⟨"TypesAtPrime", "isPower", "(I)Z"⟩ "TypesAtPrime" : Cond) ∈ tp_nest) wd_524 rfl rfl (Nat.le_of_ble_eq_true rfl) ⟨rfl, rfl⟩ ⟨by decide, by decide⟩ ⟨by decide, by decide⟩ d_X1_measureSide_1 ?_
  refine j_if_eq (tgt := 15) d_X1_measureSide_4 (by decide) (fun h5 => ?_) (fun h5 => ?_)
  · exact j_vret d_X1_measureSide_15 rfl rfl ⟨rfl, rfl⟩
  · refine j_iload d_X1_measureSide_7 rfl ?_
    refine j_bind (fun r6 h7 => ?_)
    refine j_callSN (y := y_X10_isPower) (I' := i_X10_isPower) (avs := [.inl a3]) (st := []) (c_X10_isPower G a3 M0 r6 h7) cs_Grower_244 (by decide +kernel : (.methodLinkNest "TypesAtPrime$Grower" 244 ⟨"TypesAtPrime", "isPower", "(I)Z"⟩ "TypesAtPrime" : Cond) ∈ tp_nest) wd_524 rfl rfl (Nat.le_of_ble_eq_true rfl) ⟨rfl, rfl⟩ ⟨by decide, by decide⟩ ⟨by decide, by decide⟩ d_X1_measureSide_9 ?_
    refine j_if_ne (tgt := 16) d_X1_measureSide_12 (by decide) (fun h8 => ?_) (fun h8 => ?_)
    · refine j_aload_n rfl d_X1_measureSide_16 rfl ?_
      refine j_iload_n rfl d_X1_measureSide_17 rfl ?_
      refine j_put (z := 0) (v := a2) fl_Grower_279 (by decide) ht2 (pf_7_0 _) pt_7 d_X1_measureSide_18 (fun M9 hM9 => ?_)
      refine j_aload_n rfl d_X1_measureSide_21 rfl ?_
      refine j_iload d_X1_measureSide_22 rfl ?_
      refine j_put (z := 0) (v := a3) fl_Grower_282 (by decide) ht2 (pf_7_1 _) pt_7 d_X1_measureSide_24 (fun M10 hM10 => ?_)
      refine j_aload_n rfl d_X1_measureSide_27 rfl ?_
      refine j_aload_n rfl d_X1_measureSide_28 rfl ?_
      refine j_getr fl_Grower_228 ht1 (fam_2_9 _ ht1).1 d_X1_measureSide_29 ?_
      refine j_iload_n rfl d_X1_measureSide_32 rfl ?_
      refine j_iald ((fam_2_9 _ ht1).2.1) ((fam_2_9 _ ht1).2.2) d_X1_measureSide_33 ?_
      refine j_aload_n rfl d_X1_measureSide_34 rfl ?_
      refine j_getr fl_Grower_228 ht1 (fam_2_9 _ ht1).1 d_X1_measureSide_35 ?_
      refine j_iload d_X1_measureSide_38 rfl ?_
      refine j_iald ((fam_2_9 _ ht1).2.1) ((fam_2_9 _ ht1).2.2) d_X1_measureSide_40 ?_
      refine j_isub d_X1_measureSide_41 ?_
      refine j_put (z := 0) (v := (tp_w ((M10 (a0 + 2) a2) - (M10 (a0 + 2) a3)))) fl_Grower_285 (by decide) ht2 (pf_7_2 _) pt_7 d_X1_measureSide_42 (fun M11 hM11 => ?_)
      refine j_aload_n rfl d_X1_measureSide_45 rfl ?_
      refine j_iload d_X1_measureSide_46 rfl ?_
      refine j_iload_n rfl d_X1_measureSide_48 rfl ?_
      refine j_isub d_X1_measureSide_49 ?_
      refine j_aload_n rfl d_X1_measureSide_50 rfl ?_
      refine j_geti fl_Grower_285 ht2 d_X1_measureSide_51 ?_
      refine j_bind (fun r12 h13 => ?_)
      refine j_callSN (y := y_X10_greatestDivisor) (I' := i_X10_greatestDivisor) (avs := [.inl (tp_w (a3 - a2)), .inl (M11 a1 2)]) (st := [.inr (.inr a1)]) (c_X10_greatestDivisor G (tp_w (a3 - a2)) (M11 a1 2) M11 r12 h13) cs_Grower_288 (by decide +kernel : (.methodLinkNest "TypesAtPrime$Grower" 288 ⟨"TypesAtPrime", "greatestDivisor", "(II)I"⟩ "TypesAtPrime" : Cond) ∈ tp_nest) wd_759 rfl rfl (Nat.le_of_ble_eq_true rfl) ⟨rfl, rfl⟩ ⟨by decide, by decide⟩ ⟨by decide, by decide⟩ d_X1_measureSide_54 ?_
      refine j_put (z := 0) (v := r12) fl_Grower_291 (by decide) ht2 (pf_7_4 _) pt_7 d_X1_measureSide_57 (fun M14 hM14 => ?_)
      refine j_aload_n rfl d_X1_measureSide_60 rfl ?_
      refine j_iload d_X1_measureSide_61 rfl ?_
      refine j_iload_n rfl d_X1_measureSide_63 rfl ?_
      refine j_isub d_X1_measureSide_64 ?_
      refine j_aload_n rfl d_X1_measureSide_65 rfl ?_
      refine j_geti fl_Grower_291 ht2 d_X1_measureSide_66 ?_
      refine j_bind (fun r15 h16 => ?_)
      refine j_callSN (y := y_X10_quotient) (I' := i_X10_quotient) (avs := [.inl (tp_w (a3 - a2)), .inl (M14 a1 4)]) (st := [.inr (.inr a1)]) (c_X10_quotient G (tp_w (a3 - a2)) (M14 a1 4) M14 r15 h16) cs_Grower_293 (by decide +kernel : (.methodLinkNest "TypesAtPrime$Grower" 293 ⟨"TypesAtPrime", "quotient", "(II)I"⟩ "TypesAtPrime" : Cond) ∈ tp_nest) wd_622 rfl rfl (Nat.le_of_ble_eq_true rfl) ⟨rfl, rfl⟩ ⟨by decide, by decide⟩ ⟨by decide, by decide⟩ d_X1_measureSide_69 ?_
      refine j_put (z := 0) (v := r15) fl_Grower_171 (by decide) ht2 (pf_7_3 _) pt_7 d_X1_measureSide_72 (fun M17 hM17 => ?_)
      refine j_aload_n rfl d_X1_measureSide_75 rfl ?_
      refine j_aload_n rfl d_X1_measureSide_76 rfl ?_
      refine j_getr fl_Grower_12 tg_278 rv_278_2 d_X1_measureSide_77 ?_
      refine j_aload_n rfl d_X1_measureSide_80 rfl ?_
      refine j_geti fl_Grower_177 ht1 d_X1_measureSide_81 ?_
      refine j_bind (fun r18 h19 => ?_)
      refine j_callV (y := y_X5_lift) (I' := i_X5_lift) (avs := [.inl (M17 a0 0)]) (c := 279) (st := [.inr (.inr a1)]) (c_X5_lift G (M17 a0 0) M17 r18 h19) cs_Grower_212 wd_719 wd_720 wd_721 tg_279 rfl rfl rfl (Nat.le_of_ble_eq_true rfl) ⟨rfl, rfl⟩ ⟨by decide, by decide⟩ ⟨by decide, by decide⟩ d_X1_measureSide_84 ?_
      refine j_aload_n rfl d_X1_measureSide_87 rfl ?_
      refine j_geti fl_Grower_171 ht2 d_X1_measureSide_88 ?_
      refine j_imul d_X1_measureSide_91 ?_
      refine j_aload_n rfl d_X1_measureSide_92 rfl ?_
      refine j_geti fl_Grower_285 ht2 d_X1_measureSide_93 ?_
      refine j_aload_n rfl d_X1_measureSide_96 rfl ?_
      refine j_geti fl_Grower_291 ht2 d_X1_measureSide_97 ?_
      refine j_bind (fun r20 h21 => ?_)
      refine j_callSN (y := y_X10_quotient) (I' := i_X10_quotient) (avs := [.inl (M17 a1 2), .inl (M17 a1 4)]) (st := [.inl (tp_w (r18 * (M17 a1 3))), .inr (.inr a1)]) (c_X10_quotient G (M17 a1 2) (M17 a1 4) M17 r20 h21) cs_Grower_293 (by decide +kernel : (.methodLinkNest "TypesAtPrime$Grower" 293 ⟨"TypesAtPrime", "quotient", "(II)I"⟩ "TypesAtPrime" : Cond) ∈ tp_nest) wd_622 rfl rfl (Nat.le_of_ble_eq_true rfl) ⟨rfl, rfl⟩ ⟨by decide, by decide⟩ ⟨by decide, by decide⟩ d_X1_measureSide_100 ?_
      refine j_iadd d_X1_measureSide_103 ?_
      refine j_put (z := 0) (v := (tp_w ((tp_w (r18 * (M17 a1 3))) + r20))) fl_Grower_296 (by decide) ht2 (pf_7_5 _) pt_7 d_X1_measureSide_104 (fun M22 hM22 => ?_)
      refine j_aload_n rfl d_X1_measureSide_107 rfl ?_
      refine j_getr fl_Grower_12 tg_278 rv_278_2 d_X1_measureSide_108 ?_
      refine j_aload_n rfl d_X1_measureSide_111 rfl ?_
      refine j_geti fl_Grower_296 ht2 d_X1_measureSide_112 ?_
      refine j_aload_n rfl d_X1_measureSide_115 rfl ?_
      refine j_geti fl_Grower_177 ht1 d_X1_measureSide_116 ?_
      refine j_aload_n rfl d_X1_measureSide_119 rfl ?_
      refine j_getr fl_Grower_299 ht2 (fam_7_6 _ ht2).1 d_X1_measureSide_120 ?_
      refine j_bind (fun r23 h24 => ?_)
      refine j_callV (y := y_X5_writeMonomial) (I' := i_X5_writeMonomial) (avs := [.inl (M22 a1 5), .inl (M22 a0 0), .inr (.inr (a1 + 1))]) (c := 279) (st := []) (c_X5_writeMonomial G (M22 a1 5) (M22 a0 0) (a1 + 1) M22 r23 h24) cs_Grower_301 wd_762 wd_763 wd_764 tg_279 rfl rfl rfl (Nat.le_of_ble_eq_true rfl) ⟨rfl, rfl⟩ ⟨by decide, by decide⟩ ⟨by decide, by decide⟩ d_X1_measureSide_123 ?_
      exact j_vret d_X1_measureSide_126 rfl rfl ⟨rfl, rfl⟩
    · exact j_vret d_X1_measureSide_15 rfl rfl ⟨rfl, rfl⟩
set_option maxHeartbeats 4000000 in
set_option maxRecDepth 100000 in
theorem c_X1_measureSide (G : tp_G) (a0 : Int) (a1 : Int) (a2 : Int) (a3 : Int) (M0 : tp_M) (r : tp_M) (h : f_X1_measureSide a0 a1 a2 a3 M0 = some r) (l : Launch) : Met l y_X1_measureSide (tp_ws y_X1_measureSide i_X1_measureSide) (tp_rm 2) (tp_Pc G [.inr (.inr 278), .inr (.inr a0), .inr (.inr a1), .inl a2, .inl a3] tp_NC (tp_st M0)) (tp_Q G (o_X1_measureSide r)) 0 0 (tp_A G) :=
  tp_met (I := i_X1_measureSide) (y := y_X1_measureSide) (by decide +kernel) (Eq.refl "TypesAtPrime$Grower") (Eq.refl "measureSide") (lv := [some (.inr (.inr 278)), some (.inr (.inr a0)), some (.inr (.inr a1)), some (.inl a2), some (.inl a3)]) rfl (Nat.le_of_ble_eq_true rfl) (T_X1_measureSide G a0 a1 a2 a3 M0) h l
theorem wd_771 : (.methodLink "TypesAtPrime$Grower" 319 ⟨"java/lang/Math", "max", "(II)I"⟩ : Cond) ∈ lw_tbl := List.mem_append_right _ (List.mem_of_getElem? (i := 771) (by decide +kernel))
def y_X1_pointsBelow : MethodName := ⟨"TypesAtPrime$Grower", "pointsBelow", "(LTypesAtPrime$Knot;LTypesAtPrime$Side;I)I"⟩
abbrev i_X1_pointsBelow : tp_I := (prog_3_method_16_code, "TypesAtPrime$Grower", (some .int), 7, "pointsBelow")
abbrev o_X1_pointsBelow (M : tp_M) : Int → tp_O := fun r => (some (.inl r), tp_NC, tp_st M)
theorem d_X1_pointsBelow_0 : decode prog_3_method_16_code 0 = .ok (.aload_n 1, 1) := by decide +kernel
theorem d_X1_pointsBelow_1 : decode prog_3_method_16_code 1 = .ok (.getfield 279, 3) := by decide +kernel
theorem d_X1_pointsBelow_4 : decode prog_3_method_16_code 4 = .ok (.invokestatic 244, 3) := by decide +kernel
theorem d_X1_pointsBelow_7 : decode prog_3_method_16_code 7 = .ok (.ifCond .eq 14, 3) := by decide +kernel
theorem d_X1_pointsBelow_10 : decode prog_3_method_16_code 10 = .ok (.aload_n 1, 1) := by decide +kernel
theorem d_X1_pointsBelow_11 : decode prog_3_method_16_code 11 = .ok (.getfield 282, 3) := by decide +kernel
theorem d_X1_pointsBelow_14 : decode prog_3_method_16_code 14 = .ok (.aload_n 1, 1) := by decide +kernel
theorem d_X1_pointsBelow_15 : decode prog_3_method_16_code 15 = .ok (.getfield 279, 3) := by decide +kernel
theorem d_X1_pointsBelow_18 : decode prog_3_method_16_code 18 = .ok (.if_icmp .gt 5, 3) := by decide +kernel
theorem d_X1_pointsBelow_21 : decode prog_3_method_16_code 21 = .ok (.iconst 0, 1) := by decide +kernel
theorem d_X1_pointsBelow_22 : decode prog_3_method_16_code 22 = .ok (.ireturn, 1) := by decide +kernel
theorem d_X1_pointsBelow_23 : decode prog_3_method_16_code 23 = .ok (.iconst 0, 1) := by decide +kernel
theorem d_X1_pointsBelow_24 : decode prog_3_method_16_code 24 = .ok (.istore_n 3, 1) := by decide +kernel
theorem d_X1_pointsBelow_25 : decode prog_3_method_16_code 25 = .ok (.iconst 1, 1) := by decide +kernel
theorem d_X1_pointsBelow_26 : decode prog_3_method_16_code 26 = .ok (.aload_n 1, 1) := by decide +kernel
theorem d_X1_pointsBelow_27 : decode prog_3_method_16_code 27 = .ok (.getfield 279, 3) := by decide +kernel
theorem d_X1_pointsBelow_30 : decode prog_3_method_16_code 30 = .ok (.invokestatic 319, 3) := by decide +kernel
theorem d_X1_pointsBelow_33 : decode prog_3_method_16_code 33 = .ok (.istore 4, 2) := by decide +kernel
theorem d_X1_pointsBelow_35 : decode prog_3_method_16_code 35 = .ok (.iload 4, 2) := by decide +kernel
theorem d_X1_pointsBelow_37 : decode prog_3_method_16_code 37 = .ok (.aload_n 1, 1) := by decide +kernel
theorem d_X1_pointsBelow_38 : decode prog_3_method_16_code 38 = .ok (.getfield 282, 3) := by decide +kernel
theorem d_X1_pointsBelow_41 : decode prog_3_method_16_code 41 = .ok (.if_icmp .ge 61, 3) := by decide +kernel
theorem d_X1_pointsBelow_44 : decode prog_3_method_16_code 44 = .ok (.aload_n 1, 1) := by decide +kernel
theorem d_X1_pointsBelow_45 : decode prog_3_method_16_code 45 = .ok (.getfield 282, 3) := by decide +kernel
theorem d_X1_pointsBelow_48 : decode prog_3_method_16_code 48 = .ok (.aload_n 1, 1) := by decide +kernel
theorem d_X1_pointsBelow_49 : decode prog_3_method_16_code 49 = .ok (.getfield 279, 3) := by decide +kernel
theorem d_X1_pointsBelow_52 : decode prog_3_method_16_code 52 = .ok (.isub, 1) := by decide +kernel
theorem d_X1_pointsBelow_53 : decode prog_3_method_16_code 53 = .ok (.istore 5, 2) := by decide +kernel
theorem d_X1_pointsBelow_55 : decode prog_3_method_16_code 55 = .ok (.aload_n 1, 1) := by decide +kernel
theorem d_X1_pointsBelow_56 : decode prog_3_method_16_code 56 = .ok (.getfield 285, 3) := by decide +kernel
theorem d_X1_pointsBelow_59 : decode prog_3_method_16_code 59 = .ok (.iload 4, 2) := by decide +kernel
theorem d_X1_pointsBelow_61 : decode prog_3_method_16_code 61 = .ok (.aload_n 1, 1) := by decide +kernel
theorem d_X1_pointsBelow_62 : decode prog_3_method_16_code 62 = .ok (.getfield 279, 3) := by decide +kernel
theorem d_X1_pointsBelow_65 : decode prog_3_method_16_code 65 = .ok (.isub, 1) := by decide +kernel
theorem d_X1_pointsBelow_66 : decode prog_3_method_16_code 66 = .ok (.imul, 1) := by decide +kernel
theorem d_X1_pointsBelow_67 : decode prog_3_method_16_code 67 = .ok (.iload 5, 2) := by decide +kernel
theorem d_X1_pointsBelow_69 : decode prog_3_method_16_code 69 = .ok (.iadd, 1) := by decide +kernel
theorem d_X1_pointsBelow_70 : decode prog_3_method_16_code 70 = .ok (.iconst 1, 1) := by decide +kernel
theorem d_X1_pointsBelow_71 : decode prog_3_method_16_code 71 = .ok (.isub, 1) := by decide +kernel
theorem d_X1_pointsBelow_72 : decode prog_3_method_16_code 72 = .ok (.iload 5, 2) := by decide +kernel
theorem d_X1_pointsBelow_74 : decode prog_3_method_16_code 74 = .ok (.invokestatic 293, 3) := by decide +kernel
theorem d_X1_pointsBelow_77 : decode prog_3_method_16_code 77 = .ok (.istore 6, 2) := by decide +kernel
theorem d_X1_pointsBelow_79 : decode prog_3_method_16_code 79 = .ok (.iload_n 3, 1) := by decide +kernel
theorem d_X1_pointsBelow_80 : decode prog_3_method_16_code 80 = .ok (.aload_n 0, 1) := by decide +kernel
theorem d_X1_pointsBelow_81 : decode prog_3_method_16_code 81 = .ok (.getfield 228, 3) := by decide +kernel
theorem d_X1_pointsBelow_84 : decode prog_3_method_16_code 84 = .ok (.aload_n 1, 1) := by decide +kernel
theorem d_X1_pointsBelow_85 : decode prog_3_method_16_code 85 = .ok (.getfield 279, 3) := by decide +kernel
theorem d_X1_pointsBelow_88 : decode prog_3_method_16_code 88 = .ok (.iaload, 1) := by decide +kernel
theorem d_X1_pointsBelow_89 : decode prog_3_method_16_code 89 = .ok (.iload 6, 2) := by decide +kernel
theorem d_X1_pointsBelow_91 : decode prog_3_method_16_code 91 = .ok (.isub, 1) := by decide +kernel
theorem d_X1_pointsBelow_92 : decode prog_3_method_16_code 92 = .ok (.iload_n 2, 1) := by decide +kernel
theorem d_X1_pointsBelow_93 : decode prog_3_method_16_code 93 = .ok (.isub, 1) := by decide +kernel
theorem d_X1_pointsBelow_94 : decode prog_3_method_16_code 94 = .ok (.iadd, 1) := by decide +kernel
theorem d_X1_pointsBelow_95 : decode prog_3_method_16_code 95 = .ok (.istore_n 3, 1) := by decide +kernel
theorem d_X1_pointsBelow_96 : decode prog_3_method_16_code 96 = .ok (.iinc 4 1, 3) := by decide +kernel
theorem d_X1_pointsBelow_99 : decode prog_3_method_16_code 99 = .ok (.goto (-64), 3) := by decide +kernel
theorem d_X1_pointsBelow_102 : decode prog_3_method_16_code 102 = .ok (.iload_n 3, 1) := by decide +kernel
theorem d_X1_pointsBelow_103 : decode prog_3_method_16_code 103 = .ok (.ireturn, 1) := by decide +kernel
def f_X1_pointsBelow_35B (x0 : Int) (x1 : Int) (x2 : Int) (M0 : tp_M) (rec_35 : Int → Int → Option (Int)) (x3 : Int) (x4 : Int) : Option (Int) :=
  if (M0 x1 1) ≤ x4 then
    some x3
  else
    tp_lt ((tp_w ((M0 x1 1) - (M0 x1 0)))) fun y9 =>
    (f_X10_quotient (tp_w ((tp_w ((tp_w ((M0 x1 2) * (tp_w (x4 - (M0 x1 0))))) + y9)) - 1)) y9 M0).bind fun r10 =>
    if 0 ≤ (M0 x1 0) ∧ (M0 x1 0) < 9 then
      tp_lt ((tp_w (x3 + (tp_w ((tp_w ((M0 (x0 + 2) (M0 x1 0)) - r10)) - x2))))) fun y12 =>
      tp_lt (tp_w (x4 + 1)) fun y13 =>
      rec_35 y12 y13 else none
set_option maxHeartbeats 4000000 in
set_option maxRecDepth 100000 in
theorem T_X1_pointsBelow_35B (G : tp_G) (x0 : Int) (x1 : Int) (x2 : Int) (M0 : tp_M) (hg_x0 : tp_tg x0 = 2) (hg_x1 : tp_tg x1 = 7) (rec_35 : Int → Int → Option (Int)) (hrec_35 : ∀ (x3' x4' : Int), tp_J i_X1_pointsBelow (tp_rm 1) G 0 0 (o_X1_pointsBelow M0) tp_NC (tp_st M0) 0 0 [some (.inr (.inr x0)), some (.inr (.inr x1)), some (.inl x2), some (.inl (x3')), some (.inl (x4')), none, none] 35 [] (rec_35 x3' x4')) (x3 : Int) (x4 : Int) : tp_J i_X1_pointsBelow (tp_rm 1) G 0 0 (o_X1_pointsBelow M0) tp_NC (tp_st M0) 0 0 [some (.inr (.inr x0)), some (.inr (.inr x1)), some (.inl x2), some (.inl x3), some (.inl x4), none, none] 35 [] (f_X1_pointsBelow_35B x0 x1 x2 M0 rec_35 x3 x4) := by
  unfold f_X1_pointsBelow_35B
  refine j_iload d_X1_pointsBelow_35 rfl ?_
  refine j_aload_n rfl d_X1_pointsBelow_37 rfl ?_
  refine j_geti fl_Grower_282 hg_x1 d_X1_pointsBelow_38 ?_
  refine j_icmp_ge (tgt := 102) d_X1_pointsBelow_41 (by decide) (fun h8 => ?_) (fun h8 => ?_)
  · refine j_iload_n rfl d_X1_pointsBelow_102 rfl ?_
    exact j_iret d_X1_pointsBelow_103 rfl rfl ⟨rfl, rfl⟩
  · refine j_aload_n rfl d_X1_pointsBelow_44 rfl ?_
    refine j_geti fl_Grower_282 hg_x1 d_X1_pointsBelow_45 ?_
    refine j_aload_n rfl d_X1_pointsBelow_48 rfl ?_
    refine j_geti fl_Grower_279 hg_x1 d_X1_pointsBelow_49 ?_
    refine j_isub d_X1_pointsBelow_52 ?_
    refine j_nmI (fun y9 hy9 => ?_)
    refine j_istore (lv' := [some (.inr (.inr x0)), some (.inr (.inr x1)), some (.inl x2), some (.inl x3), some (.inl x4), some (.inl y9), none]) d_X1_pointsBelow_53 (Nat.le_of_ble_eq_true rfl) rfl ?_
    refine j_aload_n rfl d_X1_pointsBelow_55 rfl ?_
    refine j_geti fl_Grower_285 hg_x1 d_X1_pointsBelow_56 ?_
    refine j_iload d_X1_pointsBelow_59 rfl ?_
    refine j_aload_n rfl d_X1_pointsBelow_61 rfl ?_
    refine j_geti fl_Grower_279 hg_x1 d_X1_pointsBelow_62 ?_
    refine j_isub d_X1_pointsBelow_65 ?_
    refine j_imul d_X1_pointsBelow_66 ?_
    refine j_iload d_X1_pointsBelow_67 rfl ?_
    refine j_iadd d_X1_pointsBelow_69 ?_
    refine j_iconst ⟨by decide, by decide⟩ d_X1_pointsBelow_70 ?_
    refine j_isub d_X1_pointsBelow_71 ?_
    refine j_iload d_X1_pointsBelow_72 rfl ?_
    refine j_bind (fun r10 h11 => ?_)
    refine j_callSN (y := y_X10_quotient) (I' := i_X10_quotient) (avs := [.inl (tp_w ((tp_w ((tp_w ((M0 x1 2) * (tp_w (x4 - (M0 x1 0))))) + y9)) - 1)), .inl y9]) (st := []) (c_X10_quotient G (tp_w ((tp_w ((tp_w ((M0 x1 2) * (tp_w (x4 - (M0 x1 0))))) + y9)) - 1)) y9 M0 r10 h11) cs_Grower_293 (by decide +kernel : (.methodLinkNest "TypesAtPrime$Grower" 293 ⟨"TypesAtPrime", "quotient", "(II)I"⟩ "TypesAtPrime" : Cond) ∈ tp_nest) wd_622 rfl rfl (Nat.le_of_ble_eq_true rfl) ⟨rfl, rfl⟩ ⟨by decide, by decide⟩ ⟨by decide, by decide⟩ d_X1_pointsBelow_74 ?_
    refine j_istore (lv' := [some (.inr (.inr x0)), some (.inr (.inr x1)), some (.inl x2), some (.inl x3), some (.inl x4), some (.inl y9), some (.inl r10)]) d_X1_pointsBelow_77 (Nat.le_of_ble_eq_true rfl) rfl ?_
    refine j_iload_n rfl d_X1_pointsBelow_79 rfl ?_
    refine j_aload_n rfl d_X1_pointsBelow_80 rfl ?_
    refine j_getr fl_Grower_228 hg_x0 (fam_2_9 _ hg_x0).1 d_X1_pointsBelow_81 ?_
    refine j_aload_n rfl d_X1_pointsBelow_84 rfl ?_
    refine j_geti fl_Grower_279 hg_x1 d_X1_pointsBelow_85 ?_
    refine j_iald ((fam_2_9 _ hg_x0).2.1) ((fam_2_9 _ hg_x0).2.2) d_X1_pointsBelow_88 ?_
    refine j_iload d_X1_pointsBelow_89 rfl ?_
    refine j_isub d_X1_pointsBelow_91 ?_
    refine j_iload_n rfl d_X1_pointsBelow_92 rfl ?_
    refine j_isub d_X1_pointsBelow_93 ?_
    refine j_iadd d_X1_pointsBelow_94 ?_
    refine j_nmI (fun y12 hy12 => ?_)
    refine j_istore_n (lv' := [some (.inr (.inr x0)), some (.inr (.inr x1)), some (.inl x2), some (.inl y12), some (.inl x4), some (.inl y9), some (.inl r10)]) rfl d_X1_pointsBelow_95 (Nat.le_of_ble_eq_true rfl) rfl ?_
    refine j_iincN (lv' := fun y13 => [some (.inr (.inr x0)), some (.inr (.inr x1)), some (.inl x2), some (.inl y12), some (.inl y13), some (.inl y9), some (.inl r10)]) d_X1_pointsBelow_96 rfl (Nat.le_of_ble_eq_true rfl) (fun _ => rfl) (fun y13 hy13 => ?_)
    refine j_goto (tgt := 35) d_X1_pointsBelow_99 (by decide) ?_
    exact j_wk [true, true, true, true, true, false, false] rfl rfl (hrec_35 y12 y13)
def f_X1_pointsBelow_35 (x0 : Int) (x1 : Int) (x2 : Int) (x3 : Int) (x4 : Int) (M0 : tp_M) : Option (Int) := tp_lp (σ := Int × Int) (fun rec_ u => f_X1_pointsBelow_35B x0 x1 x2 M0 (fun x3' x4' => rec_ (x3', x4')) u.1 u.2) tp_N (x3, x4)
set_option maxHeartbeats 4000000 in
set_option maxRecDepth 100000 in
theorem T_X1_pointsBelow_35 (G : tp_G) (x0 : Int) (x1 : Int) (x2 : Int) (x3 : Int) (x4 : Int) (M0 : tp_M) (hg_x0 : tp_tg x0 = 2) (hg_x1 : tp_tg x1 = 7) : tp_J i_X1_pointsBelow (tp_rm 1) G 0 0 (o_X1_pointsBelow M0) tp_NC (tp_st M0) 0 0 [some (.inr (.inr x0)), some (.inr (.inr x1)), some (.inl x2), some (.inl x3), some (.inl x4), none, none] 35 [] (f_X1_pointsBelow_35 x0 x1 x2 x3 x4 M0) := by
  unfold f_X1_pointsBelow_35
  exact j_lp (σ := Int × Int) (n' := fun _ => tp_NC) (g' := fun u => tp_st M0) (k' := fun _ => 0) (q' := fun _ => 0) (lv' := fun u => [some (.inr (.inr x0)), some (.inr (.inr x1)), some (.inl x2), some (.inl u.1), some (.inl u.2), none, none]) (fun rec_ hrec u => T_X1_pointsBelow_35B G x0 x1 x2 M0 hg_x0 hg_x1 (fun x3' x4' => rec_ (x3', x4')) (fun x3' x4' => hrec (x3', x4')) u.1 u.2) tp_N (x3, x4)
def f_X1_pointsBelow (a0 : Int) (a1 : Int) (a2 : Int) (M0 : tp_M) : Option (Int) :=
  if tp_tg a0 = 2 then
    if tp_tg a1 = 7 then
      (f_X10_isPower (M0 a1 0) M0).bind fun r3 =>
      if r3 = 0 then
        some 0
      else
        if (M0 a1 0) < (M0 a1 1) then
          tp_lt ((max 1 (M0 a1 0))) fun y7 =>
          f_X1_pointsBelow_35 a0 a1 a2 0 y7 M0
        else
          some 0 else none else none
set_option maxHeartbeats 4000000 in
set_option maxRecDepth 100000 in
theorem T_X1_pointsBelow (G : tp_G) (a0 : Int) (a1 : Int) (a2 : Int) (M0 : tp_M) : tp_J i_X1_pointsBelow (tp_rm 1) G 0 0 (o_X1_pointsBelow M0) tp_NC (tp_st M0) 0 0 [some (.inr (.inr a0)), some (.inr (.inr a1)), some (.inl a2), none, none, none, none] 0 [] (f_X1_pointsBelow a0 a1 a2 M0) := by
  unfold f_X1_pointsBelow
  refine tp_chk (fun ht1 => ?_)
  refine tp_chk (fun ht2 => ?_)
  refine j_aload_n rfl d_X1_pointsBelow_0 rfl ?_
  refine j_geti fl_Grower_279 ht2 d_X1_pointsBelow_1 ?_
  refine j_bind (fun r3 h4 => ?_)
  refine j_callSN (y := y_X10_isPower) (I' := i_X10_isPower) (avs := [.inl (M0 a1 0)]) (st := []) (c_X10_isPower G (M0 a1 0) M0 r3 h4) cs_Grower_244 (by decide +kernel : (.methodLinkNest "TypesAtPrime$Grower" 244 ⟨"TypesAtPrime", "isPower", "(I)Z"⟩ "TypesAtPrime" : Cond) ∈ tp_nest) wd_524 rfl rfl (Nat.le_of_ble_eq_true rfl) ⟨rfl, rfl⟩ ⟨by decide, by decide⟩ ⟨by decide, by decide⟩ d_X1_pointsBelow_4 ?_
  refine j_if_eq (tgt := 21) d_X1_pointsBelow_7 (by decide) (fun h5 => ?_) (fun h5 => ?_)
  · refine j_iconst ⟨by decide, by decide⟩ d_X1_pointsBelow_21 ?_
    exact j_iret d_X1_pointsBelow_22 rfl rfl ⟨rfl, rfl⟩
  · refine j_aload_n rfl d_X1_pointsBelow_10 rfl ?_
    refine j_geti fl_Grower_282 ht2 d_X1_pointsBelow_11 ?_
    refine j_aload_n rfl d_X1_pointsBelow_14 rfl ?_
    refine j_geti fl_Grower_279 ht2 d_X1_pointsBelow_15 ?_
    refine j_icmp_gt (tgt := 23) d_X1_pointsBelow_18 (by decide) (fun h6 => ?_) (fun h6 => ?_)
    · refine j_iconst ⟨by decide, by decide⟩ d_X1_pointsBelow_23 ?_
      refine j_istore_n (lv' := [some (.inr (.inr a0)), some (.inr (.inr a1)), some (.inl a2), some (.inl 0), none, none, none]) rfl d_X1_pointsBelow_24 (Nat.le_of_ble_eq_true rfl) rfl ?_
      refine j_iconst ⟨by decide, by decide⟩ d_X1_pointsBelow_25 ?_
      refine j_aload_n rfl d_X1_pointsBelow_26 rfl ?_
      refine j_geti fl_Grower_279 ht2 d_X1_pointsBelow_27 ?_
      refine j_mmax wd_771 wd_604 wd_13 wd_605 ⟨(by decide : 1 ≤ ((tp_rm 1) : Room).frames), (by decide : 40 ≤ ((tp_rm 1) : Room).locals)⟩ ⟨by decide, by decide⟩ (Nat.le_of_ble_eq_true rfl) d_X1_pointsBelow_30 ?_
      refine j_nmI (fun y7 hy7 => ?_)
      refine j_istore (lv' := [some (.inr (.inr a0)), some (.inr (.inr a1)), some (.inl a2), some (.inl 0), some (.inl y7), none, none]) d_X1_pointsBelow_33 (Nat.le_of_ble_eq_true rfl) rfl ?_
      exact j_wk [true, true, true, true, true, false, false] rfl rfl (T_X1_pointsBelow_35 G a0 a1 a2 0 y7 M0 ht1 ht2)
    · refine j_iconst ⟨by decide, by decide⟩ d_X1_pointsBelow_21 ?_
      exact j_iret d_X1_pointsBelow_22 rfl rfl ⟨rfl, rfl⟩
set_option maxHeartbeats 4000000 in
set_option maxRecDepth 100000 in
theorem c_X1_pointsBelow (G : tp_G) (a0 : Int) (a1 : Int) (a2 : Int) (M0 : tp_M) (r : Int) (h : f_X1_pointsBelow a0 a1 a2 M0 = some r) (l : Launch) : Met l y_X1_pointsBelow (tp_ws y_X1_pointsBelow i_X1_pointsBelow) (tp_rm 1) (tp_Pc G [.inr (.inr a0), .inr (.inr a1), .inl a2] tp_NC (tp_st M0)) (tp_Q G ((o_X1_pointsBelow M0) r)) 0 0 (tp_A G) :=
  tp_met (I := i_X1_pointsBelow) (y := y_X1_pointsBelow) (by decide +kernel) (Eq.refl "TypesAtPrime$Grower") (Eq.refl "pointsBelow") (lv := [some (.inr (.inr a0)), some (.inr (.inr a1)), some (.inl a2), none, none, none, none]) rfl (Nat.le_of_ble_eq_true rfl) (T_X1_pointsBelow G a0 a1 a2 M0) h l
theorem wd_743 : (.code ⟨"TypesAtPrime$Grower", "leastPoint", "(LTypesAtPrime$Knot;)I"⟩ prog_3_method_12_code 3 (some .int) : Cond) ∈ lw_tbl := List.mem_append_right _ (List.mem_of_getElem? (i := 743) (by decide +kernel))
theorem cs_Grower_256 : tp_CS "TypesAtPrime$Grower" 256 y_X1_leastPoint i_X1_leastPoint 1 := ⟨wd_743, wd_10, by decide, by decide, by decide +kernel⟩
theorem wd_741 : (.methodLink "TypesAtPrime$Grower" 256 ⟨"TypesAtPrime$Grower", "leastPoint", "(LTypesAtPrime$Knot;)I"⟩ : Cond) ∈ lw_tbl := List.mem_append_right _ (List.mem_of_getElem? (i := 741) (by decide +kernel))
theorem wd_742 : (.static ⟨"TypesAtPrime$Grower", "leastPoint", "(LTypesAtPrime$Knot;)I"⟩ : Cond) ∈ lw_tbl := List.mem_append_right _ (List.mem_of_getElem? (i := 742) (by decide +kernel))
theorem wd_380 : (.fieldLink "TypesAtPrime$Grower" 47 "TypesAtPrime$Grower" "corners" "[I" : Cond) ∈ lw_tbl := List.mem_append_right _ (List.mem_of_getElem? (i := 380) (by decide +kernel))
theorem fl_Grower_47 : tp_F "TypesAtPrime$Grower" 47 1 11 2 := ⟨_, _, _, rfl, by decide, rfl, wd_380, rfl, by decide⟩
theorem tg_310 : tp_tg 310 = 21 := by decide +kernel
theorem al_310 : tp_al 310 = 9 := by decide +kernel
theorem rv_278_11 : tp_rv 278 11 = 310 := by decide +kernel
theorem wd_746 : (.code ⟨"TypesAtPrime", "findCorners", "([III[I)I"⟩ prog_1_method_47_code 8 (some .int) : Cond) ∈ lw_tbl := List.mem_append_right _ (List.mem_of_getElem? (i := 746) (by decide +kernel))
theorem cs_Grower_260 : tp_CS "TypesAtPrime$Grower" 260 y_X10_findCorners i_X10_findCorners 4 := ⟨wd_746, wd_1, by decide, by decide, by decide +kernel⟩
theorem wd_745 : (.static ⟨"TypesAtPrime", "findCorners", "([III[I)I"⟩ : Cond) ∈ lw_tbl := List.mem_append_right _ (List.mem_of_getElem? (i := 745) (by decide +kernel))
theorem wd_370 : (.fieldLink "TypesAtPrime$Grower" 57 "TypesAtPrime$Grower" "tree" "LTypesAtPrime$Tree;" : Cond) ∈ lw_tbl := List.mem_append_right _ (List.mem_of_getElem? (i := 370) (by decide +kernel))
theorem fl_Grower_57 : tp_F "TypesAtPrime$Grower" 57 1 1 2 := ⟨_, _, _, rfl, by decide, rfl, wd_370, rfl, by decide⟩
theorem rv_278_1 : tp_rv 278 1 = 41 := by decide +kernel
theorem wd_753 : (.code ⟨"TypesAtPrime$Tree", "addSide", "(LTypesAtPrime$Knot;)LTypesAtPrime$Side;"⟩ prog_11_method_7_code 3 (some (.object "TypesAtPrime$Side")) : Cond) ∈ lw_tbl := List.mem_append_right _ (List.mem_of_getElem? (i := 753) (by decide +kernel))
theorem wd_6 : (.initialized "TypesAtPrime$Tree" : Cond) ∈ lw_tbl := List.mem_append_right _ (List.mem_of_getElem? (i := 6) (by decide +kernel))
theorem cs_Grower_264 : tp_CS "TypesAtPrime$Grower" 264 y_X9_addSide i_X9_addSide 1 := ⟨wd_753, wd_6, by decide, by decide, by decide +kernel⟩
theorem wd_750 : (.methodLink "TypesAtPrime$Grower" 264 ⟨"TypesAtPrime$Tree", "addSide", "(LTypesAtPrime$Knot;)LTypesAtPrime$Side;"⟩ : Cond) ∈ lw_tbl := List.mem_append_right _ (List.mem_of_getElem? (i := 750) (by decide +kernel))
theorem wd_751 : (.instanceMethod ⟨"TypesAtPrime$Tree", "addSide", "(LTypesAtPrime$Knot;)LTypesAtPrime$Side;"⟩ : Cond) ∈ lw_tbl := List.mem_append_right _ (List.mem_of_getElem? (i := 751) (by decide +kernel))
theorem wd_752 : (.selects "TypesAtPrime$Tree" ⟨"TypesAtPrime$Tree", "addSide", "(LTypesAtPrime$Knot;)LTypesAtPrime$Side;"⟩ ⟨"TypesAtPrime$Tree", "addSide", "(LTypesAtPrime$Knot;)LTypesAtPrime$Side;"⟩ : Cond) ∈ lw_tbl := List.mem_append_right _ (List.mem_of_getElem? (i := 752) (by decide +kernel))
theorem wd_757 : (.code ⟨"TypesAtPrime$Grower", "measureSide", "(LTypesAtPrime$Knot;LTypesAtPrime$Side;II)V"⟩ prog_3_method_13_code 5 (none : Option Jvm.ClassFile.FieldType) : Cond) ∈ lw_tbl := List.mem_append_right _ (List.mem_of_getElem? (i := 757) (by decide +kernel))
theorem cs_Grower_268 : tp_CS "TypesAtPrime$Grower" 268 y_X1_measureSide i_X1_measureSide 4 := ⟨wd_757, wd_10, by decide, by decide, by decide +kernel⟩
theorem wd_754 : (.methodLink "TypesAtPrime$Grower" 268 ⟨"TypesAtPrime$Grower", "measureSide", "(LTypesAtPrime$Knot;LTypesAtPrime$Side;II)V"⟩ : Cond) ∈ lw_tbl := List.mem_append_right _ (List.mem_of_getElem? (i := 754) (by decide +kernel))
theorem wd_756 : (.instanceMethod ⟨"TypesAtPrime$Grower", "measureSide", "(LTypesAtPrime$Knot;LTypesAtPrime$Side;II)V"⟩ : Cond) ∈ lw_tbl := List.mem_append_right _ (List.mem_of_getElem? (i := 756) (by decide +kernel))
theorem ws_26 : (.selects "TypesAtPrime$Grower" ⟨"TypesAtPrime$Grower", "measureSide", "(LTypesAtPrime$Knot;LTypesAtPrime$Side;II)V"⟩ ⟨"TypesAtPrime$Grower", "measureSide", "(LTypesAtPrime$Knot;LTypesAtPrime$Side;II)V"⟩ : Cond) ∈ lw_tbl := List.mem_append_left _ (List.mem_of_getElem? (i := 26) (by decide +kernel))
theorem wd_181 : (.fieldLink "TypesAtPrime$Grower" 272 "TypesAtPrime$Knot" "index" "I" : Cond) ∈ lw_tbl := List.mem_append_right _ (List.mem_of_getElem? (i := 181) (by decide +kernel))
theorem fl_Grower_272 : tp_F "TypesAtPrime$Grower" 272 2 5 0 := ⟨_, _, _, rfl, by decide, rfl, wd_181, rfl, by decide⟩
theorem wd_770 : (.code ⟨"TypesAtPrime$Grower", "pointsBelow", "(LTypesAtPrime$Knot;LTypesAtPrime$Side;I)I"⟩ prog_3_method_16_code 7 (some .int) : Cond) ∈ lw_tbl := List.mem_append_right _ (List.mem_of_getElem? (i := 770) (by decide +kernel))
theorem cs_Grower_275 : tp_CS "TypesAtPrime$Grower" 275 y_X1_pointsBelow i_X1_pointsBelow 3 := ⟨wd_770, wd_10, by decide, by decide, by decide +kernel⟩
theorem wd_768 : (.methodLink "TypesAtPrime$Grower" 275 ⟨"TypesAtPrime$Grower", "pointsBelow", "(LTypesAtPrime$Knot;LTypesAtPrime$Side;I)I"⟩ : Cond) ∈ lw_tbl := List.mem_append_right _ (List.mem_of_getElem? (i := 768) (by decide +kernel))
theorem wd_769 : (.static ⟨"TypesAtPrime$Grower", "pointsBelow", "(LTypesAtPrime$Knot;LTypesAtPrime$Side;I)I"⟩ : Cond) ∈ lw_tbl := List.mem_append_right _ (List.mem_of_getElem? (i := 769) (by decide +kernel))
theorem pf_2_5 (v : Int) : ∀ (C : String) (T : u_T) (N : Nat), vwCl[2]? = some (C, T, N) → (T 5).2.2.2 = false ∧ ∀ G : tp_G, ∃ ty, parseFieldDescriptor (T 5).2.2.1 = some ty ∧ narrow ty (tp_enc G (tp_zv 0 v)) = tp_enc G (tp_zv 0 v) ∧ fits ty (tp_enc G (tp_zv 0 v)) = true := by
  intro C T N h
  cases h
  exact ⟨rfl, fun G => ⟨_, tyX2_ok 5 (by decide), rfl, rfl⟩⟩
def y_X1_findSides : MethodName := ⟨"TypesAtPrime$Grower", "findSides", "(LTypesAtPrime$Knot;)V"⟩
abbrev i_X1_findSides : tp_I := (prog_3_method_11_code, "TypesAtPrime$Grower", none, 6, "findSides")
abbrev o_X1_findSides : tp_M → tp_O := fun r => (none, tp_NC, tp_st r)
theorem d_X1_findSides_0 : decode prog_3_method_11_code 0 = .ok (.aload_n 1, 1) := by decide +kernel
theorem d_X1_findSides_1 : decode prog_3_method_11_code 1 = .ok (.invokestatic 256, 3) := by decide +kernel
theorem d_X1_findSides_4 : decode prog_3_method_11_code 4 = .ok (.istore_n 2, 1) := by decide +kernel
theorem d_X1_findSides_5 : decode prog_3_method_11_code 5 = .ok (.iload_n 2, 1) := by decide +kernel
theorem d_X1_findSides_6 : decode prog_3_method_11_code 6 = .ok (.ifCond .ge 4, 3) := by decide +kernel
theorem d_X1_findSides_9 : decode prog_3_method_11_code 9 = .ok (.return_, 1) := by decide +kernel
theorem d_X1_findSides_10 : decode prog_3_method_11_code 10 = .ok (.aload_n 1, 1) := by decide +kernel
theorem d_X1_findSides_11 : decode prog_3_method_11_code 11 = .ok (.getfield 228, 3) := by decide +kernel
theorem d_X1_findSides_14 : decode prog_3_method_11_code 14 = .ok (.aload_n 1, 1) := by decide +kernel
theorem d_X1_findSides_15 : decode prog_3_method_11_code 15 = .ok (.getfield 159, 3) := by decide +kernel
theorem d_X1_findSides_18 : decode prog_3_method_11_code 18 = .ok (.iload_n 2, 1) := by decide +kernel
theorem d_X1_findSides_19 : decode prog_3_method_11_code 19 = .ok (.aload_n 0, 1) := by decide +kernel
theorem d_X1_findSides_20 : decode prog_3_method_11_code 20 = .ok (.getfield 47, 3) := by decide +kernel
theorem d_X1_findSides_23 : decode prog_3_method_11_code 23 = .ok (.invokestatic 260, 3) := by decide +kernel
theorem d_X1_findSides_26 : decode prog_3_method_11_code 26 = .ok (.istore_n 3, 1) := by decide +kernel
theorem d_X1_findSides_27 : decode prog_3_method_11_code 27 = .ok (.iconst 0, 1) := by decide +kernel
theorem d_X1_findSides_28 : decode prog_3_method_11_code 28 = .ok (.istore 4, 2) := by decide +kernel
theorem d_X1_findSides_30 : decode prog_3_method_11_code 30 = .ok (.iload 4, 2) := by decide +kernel
theorem d_X1_findSides_32 : decode prog_3_method_11_code 32 = .ok (.iconst 1, 1) := by decide +kernel
theorem d_X1_findSides_33 : decode prog_3_method_11_code 33 = .ok (.iadd, 1) := by decide +kernel
theorem d_X1_findSides_34 : decode prog_3_method_11_code 34 = .ok (.iload_n 3, 1) := by decide +kernel
theorem d_X1_findSides_35 : decode prog_3_method_11_code 35 = .ok (.if_icmp .ge 81, 3) := by decide +kernel
theorem d_X1_findSides_38 : decode prog_3_method_11_code 38 = .ok (.iload 4, 2) := by decide +kernel
theorem d_X1_findSides_40 : decode prog_3_method_11_code 40 = .ok (.iconst 1, 1) := by decide +kernel
theorem d_X1_findSides_41 : decode prog_3_method_11_code 41 = .ok (.iadd, 1) := by decide +kernel
theorem d_X1_findSides_42 : decode prog_3_method_11_code 42 = .ok (.aload_n 0, 1) := by decide +kernel
theorem d_X1_findSides_43 : decode prog_3_method_11_code 43 = .ok (.getfield 47, 3) := by decide +kernel
theorem d_X1_findSides_46 : decode prog_3_method_11_code 46 = .ok (.arraylength, 1) := by decide +kernel
theorem d_X1_findSides_47 : decode prog_3_method_11_code 47 = .ok (.if_icmp .ge 69, 3) := by decide +kernel
theorem d_X1_findSides_50 : decode prog_3_method_11_code 50 = .ok (.aload_n 0, 1) := by decide +kernel
theorem d_X1_findSides_51 : decode prog_3_method_11_code 51 = .ok (.getfield 57, 3) := by decide +kernel
theorem d_X1_findSides_54 : decode prog_3_method_11_code 54 = .ok (.aload_n 1, 1) := by decide +kernel
theorem d_X1_findSides_55 : decode prog_3_method_11_code 55 = .ok (.invokevirtual 264, 3) := by decide +kernel
theorem d_X1_findSides_58 : decode prog_3_method_11_code 58 = .ok (.astore 5, 2) := by decide +kernel
theorem d_X1_findSides_60 : decode prog_3_method_11_code 60 = .ok (.aload 5, 2) := by decide +kernel
theorem d_X1_findSides_62 : decode prog_3_method_11_code 62 = .ok (.ifnonnull 4, 3) := by decide +kernel
theorem d_X1_findSides_65 : decode prog_3_method_11_code 65 = .ok (.return_, 1) := by decide +kernel
theorem d_X1_findSides_66 : decode prog_3_method_11_code 66 = .ok (.aload_n 0, 1) := by decide +kernel
theorem d_X1_findSides_67 : decode prog_3_method_11_code 67 = .ok (.aload_n 1, 1) := by decide +kernel
theorem d_X1_findSides_68 : decode prog_3_method_11_code 68 = .ok (.aload 5, 2) := by decide +kernel
theorem d_X1_findSides_70 : decode prog_3_method_11_code 70 = .ok (.aload_n 0, 1) := by decide +kernel
theorem d_X1_findSides_71 : decode prog_3_method_11_code 71 = .ok (.getfield 47, 3) := by decide +kernel
theorem d_X1_findSides_74 : decode prog_3_method_11_code 74 = .ok (.iload 4, 2) := by decide +kernel
theorem d_X1_findSides_76 : decode prog_3_method_11_code 76 = .ok (.iaload, 1) := by decide +kernel
theorem d_X1_findSides_77 : decode prog_3_method_11_code 77 = .ok (.aload_n 0, 1) := by decide +kernel
theorem d_X1_findSides_78 : decode prog_3_method_11_code 78 = .ok (.getfield 47, 3) := by decide +kernel
theorem d_X1_findSides_81 : decode prog_3_method_11_code 81 = .ok (.iload 4, 2) := by decide +kernel
theorem d_X1_findSides_83 : decode prog_3_method_11_code 83 = .ok (.iconst 1, 1) := by decide +kernel
theorem d_X1_findSides_84 : decode prog_3_method_11_code 84 = .ok (.iadd, 1) := by decide +kernel
theorem d_X1_findSides_85 : decode prog_3_method_11_code 85 = .ok (.iaload, 1) := by decide +kernel
theorem d_X1_findSides_86 : decode prog_3_method_11_code 86 = .ok (.invokevirtual 268, 3) := by decide +kernel
theorem d_X1_findSides_89 : decode prog_3_method_11_code 89 = .ok (.aload_n 1, 1) := by decide +kernel
theorem d_X1_findSides_90 : decode prog_3_method_11_code 90 = .ok (.dup, 1) := by decide +kernel
theorem d_X1_findSides_91 : decode prog_3_method_11_code 91 = .ok (.getfield 272, 3) := by decide +kernel
theorem d_X1_findSides_94 : decode prog_3_method_11_code 94 = .ok (.aload_n 1, 1) := by decide +kernel
theorem d_X1_findSides_95 : decode prog_3_method_11_code 95 = .ok (.aload 5, 2) := by decide +kernel
theorem d_X1_findSides_97 : decode prog_3_method_11_code 97 = .ok (.aload_n 1, 1) := by decide +kernel
theorem d_X1_findSides_98 : decode prog_3_method_11_code 98 = .ok (.getfield 228, 3) := by decide +kernel
theorem d_X1_findSides_101 : decode prog_3_method_11_code 101 = .ok (.iload_n 2, 1) := by decide +kernel
theorem d_X1_findSides_102 : decode prog_3_method_11_code 102 = .ok (.iaload, 1) := by decide +kernel
theorem d_X1_findSides_103 : decode prog_3_method_11_code 103 = .ok (.invokestatic 275, 3) := by decide +kernel
theorem d_X1_findSides_106 : decode prog_3_method_11_code 106 = .ok (.iadd, 1) := by decide +kernel
theorem d_X1_findSides_107 : decode prog_3_method_11_code 107 = .ok (.putfield 272, 3) := by decide +kernel
theorem d_X1_findSides_110 : decode prog_3_method_11_code 110 = .ok (.iinc 4 1, 3) := by decide +kernel
theorem d_X1_findSides_113 : decode prog_3_method_11_code 113 = .ok (.goto (-83), 3) := by decide +kernel
theorem d_X1_findSides_116 : decode prog_3_method_11_code 116 = .ok (.return_, 1) := by decide +kernel
def f_X1_findSides_30B (x1 : Int) (x2 : Int) (x3 : Int) (rec_30 : Int → tp_M → Option (tp_M)) (x4 : Int) (M0 : tp_M) : Option (tp_M) :=
  if x3 ≤ (tp_w (x4 + 1)) then
    some M0
  else
    if 9 ≤ (tp_w (x4 + 1)) then
      some M0
    else
      (f_X9_addSide x1 M0).bind fun r9 =>
      if r9.1 = -1 then
        some r9.2
      else
        if 0 ≤ x4 ∧ x4 < 9 then
          if 0 ≤ (tp_w (x4 + 1)) ∧ (tp_w (x4 + 1)) < 9 then
            (f_X1_measureSide x1 r9.1 (r9.2 310 x4) (r9.2 310 (tp_w (x4 + 1))) r9.2).bind fun r12 =>
            if 0 ≤ x2 ∧ x2 < 9 then
              (f_X1_pointsBelow x1 r9.1 (r12 (x1 + 2) x2) r12).bind fun r14 =>
              tp_mp (tp_up r12 x1 5 (tp_w ((r12 x1 5) + r14))) fun M16 =>
              tp_lt (tp_w (x4 + 1)) fun y17 =>
              rec_30 y17 M16 else none else none else none
set_option maxHeartbeats 4000000 in
set_option maxRecDepth 100000 in
theorem T_X1_findSides_30B (G : tp_G) (x1 : Int) (x2 : Int) (x3 : Int) (hg_x1 : tp_tg x1 = 2) (rec_30 : Int → tp_M → Option (tp_M)) (hrec_30 : ∀ (x4' : Int) (M' : tp_M), tp_J i_X1_findSides (tp_rm 3) G 0 0 o_X1_findSides tp_NC (tp_st M') 0 0 [some (.inr (.inr 278)), some (.inr (.inr x1)), some (.inl x2), some (.inl x3), some (.inl (x4')), none] 30 [] (rec_30 x4' M')) (x4 : Int) (M0 : tp_M) : tp_J i_X1_findSides (tp_rm 3) G 0 0 o_X1_findSides tp_NC (tp_st M0) 0 0 [some (.inr (.inr 278)), some (.inr (.inr x1)), some (.inl x2), some (.inl x3), some (.inl x4), none] 30 [] (f_X1_findSides_30B x1 x2 x3 rec_30 x4 M0) := by
  unfold f_X1_findSides_30B
  refine j_iload d_X1_findSides_30 rfl ?_
  refine j_iconst ⟨by decide, by decide⟩ d_X1_findSides_32 ?_
  refine j_iadd d_X1_findSides_33 ?_
  refine j_iload_n rfl d_X1_findSides_34 rfl ?_
  refine j_icmp_ge (tgt := 116) d_X1_findSides_35 (by decide) (fun h7 => ?_) (fun h7 => ?_)
  · exact j_vret d_X1_findSides_116 rfl rfl ⟨rfl, rfl⟩
  · refine j_iload d_X1_findSides_38 rfl ?_
    refine j_iconst ⟨by decide, by decide⟩ d_X1_findSides_40 ?_
    refine j_iadd d_X1_findSides_41 ?_
    refine j_aload_n rfl d_X1_findSides_42 rfl ?_
    refine j_getr fl_Grower_47 tg_278 rv_278_11 d_X1_findSides_43 ?_
    refine j_alen tg_310 (by decide) al_310 ⟨by decide, by decide⟩ (ty := .int) (by decide) d_X1_findSides_46 ?_
    refine j_icmp_ge (tgt := 116) d_X1_findSides_47 (by decide) (fun h8 => ?_) (fun h8 => ?_)
    · exact j_vret d_X1_findSides_116 rfl rfl ⟨rfl, rfl⟩
    · refine j_aload_n rfl d_X1_findSides_50 rfl ?_
      refine j_getr fl_Grower_57 tg_278 rv_278_1 d_X1_findSides_51 ?_
      refine j_aload_n rfl d_X1_findSides_54 rfl ?_
      refine j_bind (fun r9 h10 => ?_)
      refine j_callV (y := y_X9_addSide) (I' := i_X9_addSide) (avs := [.inr (.inr x1)]) (c := 41) (st := []) (c_X9_addSide G x1 M0 r9 h10) cs_Grower_264 wd_750 wd_751 wd_752 tg_41 rfl rfl rfl (Nat.le_of_ble_eq_true rfl) ⟨rfl, rfl⟩ ⟨by decide, by decide⟩ ⟨by decide, by decide⟩ d_X1_findSides_55 ?_
      refine j_astore (lv' := [some (.inr (.inr 278)), some (.inr (.inr x1)), some (.inl x2), some (.inl x3), some (.inl x4), some (.inr (.inr r9.1))]) d_X1_findSides_58 (Nat.le_of_ble_eq_true rfl) rfl ?_
      refine j_aload d_X1_findSides_60 rfl ?_
      refine j_ifnonnull (tgt := 66) d_X1_findSides_62 (by decide) (fun h11 => ?_) (fun h11 => ?_)
      · exact j_vret d_X1_findSides_65 rfl rfl ⟨rfl, rfl⟩
      · refine j_aload_n rfl d_X1_findSides_66 rfl ?_
        refine j_aload_n rfl d_X1_findSides_67 rfl ?_
        refine j_aload d_X1_findSides_68 rfl ?_
        refine j_aload_n rfl d_X1_findSides_70 rfl ?_
        refine j_getr fl_Grower_47 tg_278 rv_278_11 d_X1_findSides_71 ?_
        refine j_iload d_X1_findSides_74 rfl ?_
        refine j_iald tg_310 al_310 d_X1_findSides_76 ?_
        refine j_aload_n rfl d_X1_findSides_77 rfl ?_
        refine j_getr fl_Grower_47 tg_278 rv_278_11 d_X1_findSides_78 ?_
        refine j_iload d_X1_findSides_81 rfl ?_
        refine j_iconst ⟨by decide, by decide⟩ d_X1_findSides_83 ?_
        refine j_iadd d_X1_findSides_84 ?_
        refine j_iald tg_310 al_310 d_X1_findSides_85 ?_
        refine j_bind (fun r12 h13 => ?_)
        refine j_callV (y := y_X1_measureSide) (I' := i_X1_measureSide) (avs := [.inr (.inr x1), .inr (.inr r9.1), .inl (r9.2 310 x4), .inl (r9.2 310 (tp_w (x4 + 1)))]) (c := 278) (st := []) (c_X1_measureSide G x1 r9.1 (r9.2 310 x4) (r9.2 310 (tp_w (x4 + 1))) r9.2 r12 h13) cs_Grower_268 wd_754 wd_756 ws_26 tg_278 rfl rfl rfl (Nat.le_of_ble_eq_true rfl) ⟨rfl, rfl⟩ ⟨by decide, by decide⟩ ⟨by decide, by decide⟩ d_X1_findSides_86 ?_
        refine j_aload_n rfl d_X1_findSides_89 rfl ?_
        refine j_dup d_X1_findSides_90 (fun G => tp_cat G _) ?_
        refine j_geti fl_Grower_272 hg_x1 d_X1_findSides_91 ?_
        refine j_aload_n rfl d_X1_findSides_94 rfl ?_
        refine j_aload d_X1_findSides_95 rfl ?_
        refine j_aload_n rfl d_X1_findSides_97 rfl ?_
        refine j_getr fl_Grower_228 hg_x1 (fam_2_9 _ hg_x1).1 d_X1_findSides_98 ?_
        refine j_iload_n rfl d_X1_findSides_101 rfl ?_
        refine j_iald ((fam_2_9 _ hg_x1).2.1) ((fam_2_9 _ hg_x1).2.2) d_X1_findSides_102 ?_
        refine j_bind (fun r14 h15 => ?_)
        refine j_callS (y := y_X1_pointsBelow) (I' := i_X1_pointsBelow) (avs := [.inr (.inr x1), .inr (.inr r9.1), .inl (r12 (x1 + 2) x2)]) (st := [.inl (r12 x1 5), .inr (.inr x1)]) (c_X1_pointsBelow G x1 r9.1 (r12 (x1 + 2) x2) r12 r14 h15) cs_Grower_275 wd_768 wd_769 rfl rfl (Nat.le_of_ble_eq_true rfl) ⟨rfl, rfl⟩ ⟨by decide, by decide⟩ ⟨by decide, by decide⟩ d_X1_findSides_103 ?_
        refine j_iadd d_X1_findSides_106 ?_
        refine j_put (z := 0) (v := (tp_w ((r12 x1 5) + r14))) fl_Grower_272 (by decide) hg_x1 (pf_2_5 _) pt_2 d_X1_findSides_107 (fun M16 hM16 => ?_)
        refine j_iincN (lv' := fun y17 => [some (.inr (.inr 278)), some (.inr (.inr x1)), some (.inl x2), some (.inl x3), some (.inl y17), some (.inr (.inr r9.1))]) d_X1_findSides_110 rfl (Nat.le_of_ble_eq_true rfl) (fun _ => rfl) (fun y17 hy17 => ?_)
        refine j_goto (tgt := 30) d_X1_findSides_113 (by decide) ?_
        exact j_wk [true, true, true, true, true, false] rfl rfl (hrec_30 y17 M16)
def f_X1_findSides_30 (x1 : Int) (x2 : Int) (x3 : Int) (x4 : Int) (M0 : tp_M) : Option (tp_M) := tp_lp (σ := Int × tp_M) (fun rec_ u => f_X1_findSides_30B x1 x2 x3 (fun x4' M0' => rec_ (x4', M0')) u.1 u.2) tp_N (x4, M0)
set_option maxHeartbeats 4000000 in
set_option maxRecDepth 100000 in
theorem T_X1_findSides_30 (G : tp_G) (x1 : Int) (x2 : Int) (x3 : Int) (x4 : Int) (M0 : tp_M) (hg_x1 : tp_tg x1 = 2) : tp_J i_X1_findSides (tp_rm 3) G 0 0 o_X1_findSides tp_NC (tp_st M0) 0 0 [some (.inr (.inr 278)), some (.inr (.inr x1)), some (.inl x2), some (.inl x3), some (.inl x4), none] 30 [] (f_X1_findSides_30 x1 x2 x3 x4 M0) := by
  unfold f_X1_findSides_30
  exact j_lp (σ := Int × tp_M) (n' := fun _ => tp_NC) (g' := fun u => tp_st u.2) (k' := fun _ => 0) (q' := fun _ => 0) (lv' := fun u => [some (.inr (.inr 278)), some (.inr (.inr x1)), some (.inl x2), some (.inl x3), some (.inl u.1), none]) (fun rec_ hrec u => T_X1_findSides_30B G x1 x2 x3 hg_x1 (fun x4' M0' => rec_ (x4', M0')) (fun x4' M0' => hrec (x4', M0')) u.1 u.2) tp_N (x4, M0)
def f_X1_findSides (a0 : Int) (M0 : tp_M) : Option (tp_M) :=
  if tp_tg a0 = 2 then
    (f_X1_leastPoint a0 M0).bind fun r2 =>
    if 0 ≤ r2 then
      (f_X10_findCorners (a0 + 2) (M0 a0 4) r2 310 M0).bind fun r5 =>
      f_X1_findSides_30 a0 r2 r5.1 0 r5.2
    else
      some M0 else none
set_option maxHeartbeats 4000000 in
set_option maxRecDepth 100000 in
theorem T_X1_findSides (G : tp_G) (a0 : Int) (M0 : tp_M) : tp_J i_X1_findSides (tp_rm 3) G 0 0 o_X1_findSides tp_NC (tp_st M0) 0 0 [some (.inr (.inr 278)), some (.inr (.inr a0)), none, none, none, none] 0 [] (f_X1_findSides a0 M0) := by
  unfold f_X1_findSides
  refine tp_chk (fun ht1 => ?_)
  refine j_aload_n rfl d_X1_findSides_0 rfl ?_
  refine j_bind (fun r2 h3 => ?_)
  refine j_callS (y := y_X1_leastPoint) (I' := i_X1_leastPoint) (avs := [.inr (.inr a0)]) (st := []) (c_X1_leastPoint G a0 M0 r2 h3) cs_Grower_256 wd_741 wd_742 rfl rfl (Nat.le_of_ble_eq_true rfl) ⟨rfl, rfl⟩ ⟨by decide, by decide⟩ ⟨by decide, by decide⟩ d_X1_findSides_1 ?_
  refine j_istore_n (lv' := [some (.inr (.inr 278)), some (.inr (.inr a0)), some (.inl r2), none, none, none]) rfl d_X1_findSides_4 (Nat.le_of_ble_eq_true rfl) rfl ?_
  refine j_iload_n rfl d_X1_findSides_5 rfl ?_
  refine j_if_ge (tgt := 10) d_X1_findSides_6 (by decide) (fun h4 => ?_) (fun h4 => ?_)
  · refine j_aload_n rfl d_X1_findSides_10 rfl ?_
    refine j_getr fl_Grower_228 ht1 (fam_2_9 _ ht1).1 d_X1_findSides_11 ?_
    refine j_aload_n rfl d_X1_findSides_14 rfl ?_
    refine j_geti fl_Grower_159 ht1 d_X1_findSides_15 ?_
    refine j_iload_n rfl d_X1_findSides_18 rfl ?_
    refine j_aload_n rfl d_X1_findSides_19 rfl ?_
    refine j_getr fl_Grower_47 tg_278 rv_278_11 d_X1_findSides_20 ?_
    refine j_bind (fun r5 h6 => ?_)
    refine j_callSN (y := y_X10_findCorners) (I' := i_X10_findCorners) (avs := [.inr (.inr (a0 + 2)), .inl (M0 a0 4), .inl r2, .inr (.inr 310)]) (st := []) (c_X10_findCorners G (a0 + 2) (M0 a0 4) r2 310 M0 r5 h6) cs_Grower_260 (by decide +kernel : (.methodLinkNest "TypesAtPrime$Grower" 260 ⟨"TypesAtPrime", "findCorners", "([III[I)I"⟩ "TypesAtPrime" : Cond) ∈ tp_nest) wd_745 rfl rfl (Nat.le_of_ble_eq_true rfl) ⟨rfl, rfl⟩ ⟨by decide, by decide⟩ ⟨by decide, by decide⟩ d_X1_findSides_23 ?_
    refine j_istore_n (lv' := [some (.inr (.inr 278)), some (.inr (.inr a0)), some (.inl r2), some (.inl r5.1), none, none]) rfl d_X1_findSides_26 (Nat.le_of_ble_eq_true rfl) rfl ?_
    refine j_iconst ⟨by decide, by decide⟩ d_X1_findSides_27 ?_
    refine j_istore (lv' := [some (.inr (.inr 278)), some (.inr (.inr a0)), some (.inl r2), some (.inl r5.1), some (.inl 0), none]) d_X1_findSides_28 (Nat.le_of_ble_eq_true rfl) rfl ?_
    exact j_wk [true, true, true, true, true, false] rfl rfl (T_X1_findSides_30 G a0 r2 r5.1 0 r5.2 ht1)
  · exact j_vret d_X1_findSides_9 rfl rfl ⟨rfl, rfl⟩
set_option maxHeartbeats 4000000 in
set_option maxRecDepth 100000 in
theorem c_X1_findSides (G : tp_G) (a0 : Int) (M0 : tp_M) (r : tp_M) (h : f_X1_findSides a0 M0 = some r) (l : Launch) : Met l y_X1_findSides (tp_ws y_X1_findSides i_X1_findSides) (tp_rm 3) (tp_Pc G [.inr (.inr 278), .inr (.inr a0)] tp_NC (tp_st M0)) (tp_Q G (o_X1_findSides r)) 0 0 (tp_A G) :=
  tp_met (I := i_X1_findSides) (y := y_X1_findSides) (by decide +kernel) (Eq.refl "TypesAtPrime$Grower") (Eq.refl "findSides") (lv := [some (.inr (.inr 278)), some (.inr (.inr a0)), none, none, none, none]) rfl (Nat.le_of_ble_eq_true rfl) (T_X1_findSides G a0 M0) h l
