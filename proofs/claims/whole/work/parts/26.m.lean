theorem wd_413 : (.fieldLink "TypesAtPrime" 29 "TypesAtPrime" "sheets" "[LTypesAtPrime$Sheet;" : Cond) ∈ lw_tbl := List.mem_append_right _ (List.mem_of_getElem? (i := 413) (by decide +kernel))
theorem fl_Main_29 : tp_F "TypesAtPrime" 29 10 4 2 := ⟨_, _, _, rfl, by decide, rfl, wd_413, rfl, by decide⟩
theorem tg_9 : tp_tg 9 = 28 := by decide +kernel
theorem al_9 : tp_al 9 = 4 := by decide +kernel
theorem rv_0_4 : tp_rv 0 4 = 9 := by decide +kernel
theorem aa_9 : ∀ i : Int, 0 ≤ i → i < 4 → tp_rv 9 i.toNat = (10 + 2 * i) ∧ tp_tg (10 + 2 * i) = 6 ∧ tp_al (10 + 2 * i) = 3 := by
  intro i h0 h1
  have h : (List.range 4).all (fun j => decide (tp_rv 9 j = (10 + 2 * (j : Int)) ∧ tp_tg (10 + 2 * (j : Int)) = 6 ∧ tp_al (10 + 2 * (j : Int)) = 3)) = true := by decide +kernel
  have h3 := of_decide_eq_true (List.all_eq_true.mp h i.toNat (List.mem_range.mpr (by omega)))
  have h4 : ((i.toNat : Nat) : Int) = i := by omega
  rw [h4] at h3
  exact h3
def y_X10_sheetAt : MethodName := ⟨"TypesAtPrime", "sheetAt", "(I)LTypesAtPrime$Sheet;"⟩
abbrev i_X10_sheetAt : tp_I := (prog_1_method_44_code, "TypesAtPrime", (some (.object "TypesAtPrime$Sheet")), 2, "sheetAt")
abbrev o_X10_sheetAt (M : tp_M) : Int → tp_O := fun r => (some (.inr (.inr r)), tp_NC, tp_st M)
theorem d_X10_sheetAt_0 : decode prog_1_method_44_code 0 = .ok (.iload_n 1, 1) := by decide +kernel
theorem d_X10_sheetAt_1 : decode prog_1_method_44_code 1 = .ok (.ifCond .lt 21, 3) := by decide +kernel
theorem d_X10_sheetAt_4 : decode prog_1_method_44_code 4 = .ok (.iload_n 1, 1) := by decide +kernel
theorem d_X10_sheetAt_5 : decode prog_1_method_44_code 5 = .ok (.aload_n 0, 1) := by decide +kernel
theorem d_X10_sheetAt_6 : decode prog_1_method_44_code 6 = .ok (.getfield 29, 3) := by decide +kernel
theorem d_X10_sheetAt_9 : decode prog_1_method_44_code 9 = .ok (.arraylength, 1) := by decide +kernel
theorem d_X10_sheetAt_10 : decode prog_1_method_44_code 10 = .ok (.if_icmp .ge 12, 3) := by decide +kernel
theorem d_X10_sheetAt_13 : decode prog_1_method_44_code 13 = .ok (.aload_n 0, 1) := by decide +kernel
theorem d_X10_sheetAt_14 : decode prog_1_method_44_code 14 = .ok (.getfield 29, 3) := by decide +kernel
theorem d_X10_sheetAt_17 : decode prog_1_method_44_code 17 = .ok (.iload_n 1, 1) := by decide +kernel
theorem d_X10_sheetAt_18 : decode prog_1_method_44_code 18 = .ok (.aaload, 1) := by decide +kernel
theorem d_X10_sheetAt_19 : decode prog_1_method_44_code 19 = .ok (.goto 4, 3) := by decide +kernel
theorem d_X10_sheetAt_22 : decode prog_1_method_44_code 22 = .ok (.aconst_null, 1) := by decide +kernel
theorem d_X10_sheetAt_23 : decode prog_1_method_44_code 23 = .ok (.areturn, 1) := by decide +kernel
def f_X10_sheetAt (a0 : Int) (M0 : tp_M) : Option (Int) :=
  if a0 < 0 then
    some (-1)
  else
    if 4 ≤ a0 then
      some (-1)
    else
      if 0 ≤ a0 ∧ a0 < 4 then
        some (10 + 2 * a0) else none
set_option maxHeartbeats 4000000 in
set_option maxRecDepth 100000 in
theorem T_X10_sheetAt (G : tp_G) (a0 : Int) (M0 : tp_M) : tp_J i_X10_sheetAt (tp_rm 0) G 0 0 (o_X10_sheetAt M0) tp_NC (tp_st M0) 0 0 [some (.inr (.inr 0)), some (.inl a0)] 0 [] (f_X10_sheetAt a0 M0) := by
  unfold f_X10_sheetAt
  refine j_iload_n rfl d_X10_sheetAt_0 rfl ?_
  refine j_if_lt (tgt := 22) d_X10_sheetAt_1 (by decide) (fun h1 => ?_) (fun h1 => ?_)
  · refine j_null d_X10_sheetAt_22 ?_
    exact j_aret d_X10_sheetAt_23 rfl (Or.inl ⟨_, rfl⟩) rfl ⟨rfl, rfl⟩
  · refine j_iload_n rfl d_X10_sheetAt_4 rfl ?_
    refine j_aload_n rfl d_X10_sheetAt_5 rfl ?_
    refine j_getr fl_Main_29 tg_0 rv_0_4 d_X10_sheetAt_6 ?_
    refine j_alen tg_9 (by decide) al_9 ⟨by decide, by decide⟩ (ty := (.object "TypesAtPrime$Sheet")) (by decide) d_X10_sheetAt_9 ?_
    refine j_icmp_ge (tgt := 22) d_X10_sheetAt_10 (by decide) (fun h2 => ?_) (fun h2 => ?_)
    · refine j_null d_X10_sheetAt_22 ?_
      exact j_aret d_X10_sheetAt_23 rfl (Or.inl ⟨_, rfl⟩) rfl ⟨rfl, rfl⟩
    · refine j_aload_n rfl d_X10_sheetAt_13 rfl ?_
      refine j_getr fl_Main_29 tg_0 rv_0_4 d_X10_sheetAt_14 ?_
      refine j_iload_n rfl d_X10_sheetAt_17 rfl ?_
      refine j_aald (v := (10 + 2 * a0)) (ty := (.object "TypesAtPrime$Sheet")) tg_9 (by decide) al_9 (by decide) rfl d_X10_sheetAt_18 (fun h1 h2 => (aa_9 _ h1 h2).1) (fun hi3 => ?_)
      refine j_goto (tgt := 23) d_X10_sheetAt_19 (by decide) ?_
      exact j_aret d_X10_sheetAt_23 rfl (Or.inl ⟨_, rfl⟩) rfl ⟨rfl, rfl⟩
set_option maxHeartbeats 4000000 in
set_option maxRecDepth 100000 in
theorem c_X10_sheetAt (G : tp_G) (a0 : Int) (M0 : tp_M) (r : Int) (h : f_X10_sheetAt a0 M0 = some r) (l : Launch) : Met l y_X10_sheetAt (tp_ws y_X10_sheetAt i_X10_sheetAt) (tp_rm 0) (tp_Pc G [.inr (.inr 0), .inl a0] tp_NC (tp_st M0)) (tp_Q G ((o_X10_sheetAt M0) r)) 0 0 (tp_A G) :=
  tp_met (I := i_X10_sheetAt) (y := y_X10_sheetAt) (by decide +kernel) (Eq.refl "TypesAtPrime") (Eq.refl "sheetAt") (lv := [some (.inr (.inr 0)), some (.inl a0)]) rfl (Nat.le_of_ble_eq_true rfl) (T_X10_sheetAt G a0 M0) h l
theorem wd_942 : (.code ⟨"TypesAtPrime", "sheetAt", "(I)LTypesAtPrime$Sheet;"⟩ prog_1_method_44_code 2 (some (.object "TypesAtPrime$Sheet")) : Cond) ∈ lw_tbl := List.mem_append_right _ (List.mem_of_getElem? (i := 942) (by decide +kernel))
theorem cs_Main_280 : tp_CS "TypesAtPrime" 280 y_X10_sheetAt i_X10_sheetAt 1 := ⟨wd_942, wd_1, by decide, by decide, by decide +kernel⟩
theorem wd_939 : (.methodLink "TypesAtPrime" 280 ⟨"TypesAtPrime", "sheetAt", "(I)LTypesAtPrime$Sheet;"⟩ : Cond) ∈ lw_tbl := List.mem_append_right _ (List.mem_of_getElem? (i := 939) (by decide +kernel))
theorem wd_941 : (.instanceMethod ⟨"TypesAtPrime", "sheetAt", "(I)LTypesAtPrime$Sheet;"⟩ : Cond) ∈ lw_tbl := List.mem_append_right _ (List.mem_of_getElem? (i := 941) (by decide +kernel))
theorem ws_33 : (.selects "TypesAtPrime" ⟨"TypesAtPrime", "sheetAt", "(I)LTypesAtPrime$Sheet;"⟩ ⟨"TypesAtPrime", "sheetAt", "(I)LTypesAtPrime$Sheet;"⟩ : Cond) ∈ lw_tbl := List.mem_append_left _ (List.mem_of_getElem? (i := 33) (by decide +kernel))
theorem wd_946 : (.code ⟨"TypesAtPrime$Sheet", "isMissing", "()Z"⟩ prog_8_method_2_code 1 (some .boolean) : Cond) ∈ lw_tbl := List.mem_append_right _ (List.mem_of_getElem? (i := 946) (by decide +kernel))
theorem cs_Main_284 : tp_CS "TypesAtPrime" 284 y_X6_isMissing i_X6_isMissing 0 := ⟨wd_946, wd_3, by decide, by decide, by decide +kernel⟩
theorem wd_943 : (.methodLink "TypesAtPrime" 284 ⟨"TypesAtPrime$Sheet", "isMissing", "()Z"⟩ : Cond) ∈ lw_tbl := List.mem_append_right _ (List.mem_of_getElem? (i := 943) (by decide +kernel))
theorem wd_944 : (.instanceMethod ⟨"TypesAtPrime$Sheet", "isMissing", "()Z"⟩ : Cond) ∈ lw_tbl := List.mem_append_right _ (List.mem_of_getElem? (i := 944) (by decide +kernel))
theorem wd_945 : (.selects "TypesAtPrime$Sheet" ⟨"TypesAtPrime$Sheet", "isMissing", "()Z"⟩ ⟨"TypesAtPrime$Sheet", "isMissing", "()Z"⟩ : Cond) ∈ lw_tbl := List.mem_append_right _ (List.mem_of_getElem? (i := 945) (by decide +kernel))
theorem wd_950 : (.code ⟨"TypesAtPrime$Sheet", "firstPoint", "()I"⟩ prog_8_method_7_code 2 (some .int) : Cond) ∈ lw_tbl := List.mem_append_right _ (List.mem_of_getElem? (i := 950) (by decide +kernel))
theorem cs_Main_288 : tp_CS "TypesAtPrime" 288 y_X6_firstPoint i_X6_firstPoint 0 := ⟨wd_950, wd_3, by decide, by decide, by decide +kernel⟩
theorem wd_947 : (.methodLink "TypesAtPrime" 288 ⟨"TypesAtPrime$Sheet", "firstPoint", "()I"⟩ : Cond) ∈ lw_tbl := List.mem_append_right _ (List.mem_of_getElem? (i := 947) (by decide +kernel))
theorem wd_948 : (.instanceMethod ⟨"TypesAtPrime$Sheet", "firstPoint", "()I"⟩ : Cond) ∈ lw_tbl := List.mem_append_right _ (List.mem_of_getElem? (i := 948) (by decide +kernel))
theorem wd_949 : (.selects "TypesAtPrime$Sheet" ⟨"TypesAtPrime$Sheet", "firstPoint", "()I"⟩ ⟨"TypesAtPrime$Sheet", "firstPoint", "()I"⟩ : Cond) ∈ lw_tbl := List.mem_append_right _ (List.mem_of_getElem? (i := 949) (by decide +kernel))
theorem wd_62 : (.fieldLink "TypesAtPrime" 291 "TypesAtPrime$Sheet" "numbers" "[I" : Cond) ∈ lw_tbl := List.mem_append_right _ (List.mem_of_getElem? (i := 62) (by decide +kernel))
theorem fl_Main_291 : tp_F "TypesAtPrime" 291 6 2 2 := ⟨_, _, _, rfl, by decide, rfl, wd_62, rfl, by decide⟩
theorem wd_954 : (.code ⟨"TypesAtPrime$Sheet", "lastPoint", "()I"⟩ prog_8_method_8_code 2 (some .int) : Cond) ∈ lw_tbl := List.mem_append_right _ (List.mem_of_getElem? (i := 954) (by decide +kernel))
theorem cs_Main_293 : tp_CS "TypesAtPrime" 293 y_X6_lastPoint i_X6_lastPoint 0 := ⟨wd_954, wd_3, by decide, by decide, by decide +kernel⟩
theorem wd_951 : (.methodLink "TypesAtPrime" 293 ⟨"TypesAtPrime$Sheet", "lastPoint", "()I"⟩ : Cond) ∈ lw_tbl := List.mem_append_right _ (List.mem_of_getElem? (i := 951) (by decide +kernel))
theorem wd_952 : (.instanceMethod ⟨"TypesAtPrime$Sheet", "lastPoint", "()I"⟩ : Cond) ∈ lw_tbl := List.mem_append_right _ (List.mem_of_getElem? (i := 952) (by decide +kernel))
theorem wd_953 : (.selects "TypesAtPrime$Sheet" ⟨"TypesAtPrime$Sheet", "lastPoint", "()I"⟩ ⟨"TypesAtPrime$Sheet", "lastPoint", "()I"⟩ : Cond) ∈ lw_tbl := List.mem_append_right _ (List.mem_of_getElem? (i := 953) (by decide +kernel))
theorem wd_420 : (.fieldLink "TypesAtPrime" 71 "TypesAtPrime" "corners" "[I" : Cond) ∈ lw_tbl := List.mem_append_right _ (List.mem_of_getElem? (i := 420) (by decide +kernel))
theorem fl_Main_71 : tp_F "TypesAtPrime" 71 10 11 2 := ⟨_, _, _, rfl, by decide, rfl, wd_420, rfl, by decide⟩
theorem tg_482 : tp_tg 482 = 21 := by decide +kernel
theorem al_482 : tp_al 482 = 40 := by decide +kernel
theorem rv_0_11 : tp_rv 0 11 = 482 := by decide +kernel
theorem cs_Main_296 : tp_CS "TypesAtPrime" 296 y_X10_findCorners i_X10_findCorners 4 := ⟨wd_746, wd_1, by decide, by decide, by decide +kernel⟩
theorem wd_956 : (.methodLink "TypesAtPrime" 296 ⟨"TypesAtPrime", "findCorners", "([III[I)I"⟩ : Cond) ∈ lw_tbl := List.mem_append_right _ (List.mem_of_getElem? (i := 956) (by decide +kernel))
def y_X10_corner : MethodName := ⟨"TypesAtPrime", "corner", "(II)I"⟩
abbrev i_X10_corner : tp_I := (prog_1_method_25_code, "TypesAtPrime", (some .int), 6, "corner")
abbrev o_X10_corner : Int × tp_M → tp_O := fun r => (some (.inl r.1), tp_NC, tp_st r.2)
theorem d_X10_corner_0 : decode prog_1_method_25_code 0 = .ok (.aload_n 0, 1) := by decide +kernel
theorem d_X10_corner_1 : decode prog_1_method_25_code 1 = .ok (.iload_n 1, 1) := by decide +kernel
theorem d_X10_corner_2 : decode prog_1_method_25_code 2 = .ok (.invokevirtual 280, 3) := by decide +kernel
theorem d_X10_corner_5 : decode prog_1_method_25_code 5 = .ok (.astore_n 3, 1) := by decide +kernel
theorem d_X10_corner_6 : decode prog_1_method_25_code 6 = .ok (.aload_n 3, 1) := by decide +kernel
theorem d_X10_corner_7 : decode prog_1_method_25_code 7 = .ok (.ifnonnull 5, 3) := by decide +kernel
theorem d_X10_corner_10 : decode prog_1_method_25_code 10 = .ok (.iconst (-1), 1) := by decide +kernel
theorem d_X10_corner_11 : decode prog_1_method_25_code 11 = .ok (.ireturn, 1) := by decide +kernel
theorem d_X10_corner_12 : decode prog_1_method_25_code 12 = .ok (.aload_n 3, 1) := by decide +kernel
theorem d_X10_corner_13 : decode prog_1_method_25_code 13 = .ok (.invokevirtual 284, 3) := by decide +kernel
theorem d_X10_corner_16 : decode prog_1_method_25_code 16 = .ok (.ifCond .eq 6, 3) := by decide +kernel
theorem d_X10_corner_19 : decode prog_1_method_25_code 19 = .ok (.bipush (-11), 2) := by decide +kernel
theorem d_X10_corner_21 : decode prog_1_method_25_code 21 = .ok (.ireturn, 1) := by decide +kernel
theorem d_X10_corner_22 : decode prog_1_method_25_code 22 = .ok (.aload_n 3, 1) := by decide +kernel
theorem d_X10_corner_23 : decode prog_1_method_25_code 23 = .ok (.invokevirtual 288, 3) := by decide +kernel
theorem d_X10_corner_26 : decode prog_1_method_25_code 26 = .ok (.istore 4, 2) := by decide +kernel
theorem d_X10_corner_28 : decode prog_1_method_25_code 28 = .ok (.iload 4, 2) := by decide +kernel
theorem d_X10_corner_30 : decode prog_1_method_25_code 30 = .ok (.ifCond .ge 6, 3) := by decide +kernel
theorem d_X10_corner_33 : decode prog_1_method_25_code 33 = .ok (.bipush (-2), 2) := by decide +kernel
theorem d_X10_corner_35 : decode prog_1_method_25_code 35 = .ok (.ireturn, 1) := by decide +kernel
theorem d_X10_corner_36 : decode prog_1_method_25_code 36 = .ok (.aload_n 3, 1) := by decide +kernel
theorem d_X10_corner_37 : decode prog_1_method_25_code 37 = .ok (.getfield 291, 3) := by decide +kernel
theorem d_X10_corner_40 : decode prog_1_method_25_code 40 = .ok (.iload 4, 2) := by decide +kernel
theorem d_X10_corner_42 : decode prog_1_method_25_code 42 = .ok (.aload_n 3, 1) := by decide +kernel
theorem d_X10_corner_43 : decode prog_1_method_25_code 43 = .ok (.invokevirtual 293, 3) := by decide +kernel
theorem d_X10_corner_46 : decode prog_1_method_25_code 46 = .ok (.aload_n 0, 1) := by decide +kernel
theorem d_X10_corner_47 : decode prog_1_method_25_code 47 = .ok (.getfield 71, 3) := by decide +kernel
theorem d_X10_corner_50 : decode prog_1_method_25_code 50 = .ok (.invokestatic 296, 3) := by decide +kernel
theorem d_X10_corner_53 : decode prog_1_method_25_code 53 = .ok (.istore 5, 2) := by decide +kernel
theorem d_X10_corner_55 : decode prog_1_method_25_code 55 = .ok (.iload_n 2, 1) := by decide +kernel
theorem d_X10_corner_56 : decode prog_1_method_25_code 56 = .ok (.ifCond .lt 18, 3) := by decide +kernel
theorem d_X10_corner_59 : decode prog_1_method_25_code 59 = .ok (.iload_n 2, 1) := by decide +kernel
theorem d_X10_corner_60 : decode prog_1_method_25_code 60 = .ok (.iload 5, 2) := by decide +kernel
theorem d_X10_corner_62 : decode prog_1_method_25_code 62 = .ok (.if_icmp .ge 12, 3) := by decide +kernel
theorem d_X10_corner_65 : decode prog_1_method_25_code 65 = .ok (.iload_n 2, 1) := by decide +kernel
theorem d_X10_corner_66 : decode prog_1_method_25_code 66 = .ok (.aload_n 0, 1) := by decide +kernel
theorem d_X10_corner_67 : decode prog_1_method_25_code 67 = .ok (.getfield 71, 3) := by decide +kernel
theorem d_X10_corner_70 : decode prog_1_method_25_code 70 = .ok (.arraylength, 1) := by decide +kernel
theorem d_X10_corner_71 : decode prog_1_method_25_code 71 = .ok (.if_icmp .lt 6, 3) := by decide +kernel
theorem d_X10_corner_74 : decode prog_1_method_25_code 74 = .ok (.bipush (-2), 2) := by decide +kernel
theorem d_X10_corner_76 : decode prog_1_method_25_code 76 = .ok (.ireturn, 1) := by decide +kernel
theorem d_X10_corner_77 : decode prog_1_method_25_code 77 = .ok (.aload_n 0, 1) := by decide +kernel
theorem d_X10_corner_78 : decode prog_1_method_25_code 78 = .ok (.getfield 71, 3) := by decide +kernel
theorem d_X10_corner_81 : decode prog_1_method_25_code 81 = .ok (.iload_n 2, 1) := by decide +kernel
theorem d_X10_corner_82 : decode prog_1_method_25_code 82 = .ok (.iaload, 1) := by decide +kernel
theorem d_X10_corner_83 : decode prog_1_method_25_code 83 = .ok (.ireturn, 1) := by decide +kernel
def f_X10_corner (a0 : Int) (a1 : Int) (M0 : tp_M) : Option (Int × tp_M) :=
  (f_X10_sheetAt a0 M0).bind fun r1 =>
  if r1 = -1 then
    some ((-1), M0)
  else
    if tp_tg r1 = 6 then
      (f_X6_isMissing r1 M0).bind fun r5 =>
      if r5 = 0 then
        (f_X6_firstPoint r1 M0).bind fun r8 =>
        if 0 ≤ r8 then
          (f_X6_lastPoint r1 M0).bind fun r11 =>
          (f_X10_findCorners (r1 + 1) r8 r11 482 M0).bind fun r13 =>
          if a1 < 0 then
            some ((-2), r13.2)
          else
            if r13.1 ≤ a1 then
              some ((-2), r13.2)
            else
              if a1 < 40 then
                if 0 ≤ a1 ∧ a1 < 40 then
                  some ((r13.2 482 a1), r13.2) else none
              else
                some ((-2), r13.2)
        else
          some ((-2), M0)
      else
        some ((-11), M0) else none
set_option maxHeartbeats 4000000 in
set_option maxRecDepth 100000 in
theorem T_X10_corner (G : tp_G) (a0 : Int) (a1 : Int) (M0 : tp_M) : tp_J i_X10_corner (tp_rm 2) G 0 0 o_X10_corner tp_NC (tp_st M0) 0 0 [some (.inr (.inr 0)), some (.inl a0), some (.inl a1), none, none, none] 0 [] (f_X10_corner a0 a1 M0) := by
  unfold f_X10_corner
  refine j_aload_n rfl d_X10_corner_0 rfl ?_
  refine j_iload_n rfl d_X10_corner_1 rfl ?_
  refine j_bind (fun r1 h2 => ?_)
  refine j_callV (y := y_X10_sheetAt) (I' := i_X10_sheetAt) (avs := [.inl a0]) (c := 0) (st := []) (c_X10_sheetAt G a0 M0 r1 h2) cs_Main_280 wd_939 wd_941 ws_33 tg_0 rfl rfl rfl (Nat.le_of_ble_eq_true rfl) ⟨rfl, rfl⟩ ⟨by decide, by decide⟩ ⟨by decide, by decide⟩ d_X10_corner_2 ?_
  refine j_astore_n (lv' := [some (.inr (.inr 0)), some (.inl a0), some (.inl a1), some (.inr (.inr r1)), none, none]) rfl d_X10_corner_5 (Nat.le_of_ble_eq_true rfl) rfl ?_
  refine j_aload_n rfl d_X10_corner_6 rfl ?_
  refine j_ifnonnull (tgt := 12) d_X10_corner_7 (by decide) (fun h3 => ?_) (fun h3 => ?_)
  · refine j_iconst ⟨by decide, by decide⟩ d_X10_corner_10 ?_
    exact j_iret d_X10_corner_11 rfl rfl ⟨rfl, rfl⟩
  · refine j_aload_n rfl d_X10_corner_12 rfl ?_
    refine tp_chk (fun ht4 => ?_)
    refine j_bind (fun r5 h6 => ?_)
    refine j_callV (y := y_X6_isMissing) (I' := i_X6_isMissing) (avs := []) (c := r1) (st := []) (c_X6_isMissing G r1 M0 r5 h6) cs_Main_284 wd_943 wd_944 wd_945 ht4 rfl rfl rfl (Nat.le_of_ble_eq_true rfl) ⟨rfl, rfl⟩ ⟨by decide, by decide⟩ ⟨by decide, by decide⟩ d_X10_corner_13 ?_
    refine j_if_eq (tgt := 22) d_X10_corner_16 (by decide) (fun h7 => ?_) (fun h7 => ?_)
    · refine j_aload_n rfl d_X10_corner_22 rfl ?_
      refine j_bind (fun r8 h9 => ?_)
      refine j_callV (y := y_X6_firstPoint) (I' := i_X6_firstPoint) (avs := []) (c := r1) (st := []) (c_X6_firstPoint G r1 M0 r8 h9) cs_Main_288 wd_947 wd_948 wd_949 ht4 rfl rfl rfl (Nat.le_of_ble_eq_true rfl) ⟨rfl, rfl⟩ ⟨by decide, by decide⟩ ⟨by decide, by decide⟩ d_X10_corner_23 ?_
      refine j_istore (lv' := [some (.inr (.inr 0)), some (.inl a0), some (.inl a1), some (.inr (.inr r1)), some (.inl r8), none]) d_X10_corner_26 (Nat.le_of_ble_eq_true rfl) rfl ?_
      refine j_iload d_X10_corner_28 rfl ?_
      refine j_if_ge (tgt := 36) d_X10_corner_30 (by decide) (fun h10 => ?_) (fun h10 => ?_)
      · refine j_aload_n rfl d_X10_corner_36 rfl ?_
        refine j_getr fl_Main_291 ht4 (fam_6_2 _ ht4).1 d_X10_corner_37 ?_
        refine j_iload d_X10_corner_40 rfl ?_
        refine j_aload_n rfl d_X10_corner_42 rfl ?_
        refine j_bind (fun r11 h12 => ?_)
        refine j_callV (y := y_X6_lastPoint) (I' := i_X6_lastPoint) (avs := []) (c := r1) (st := [.inl r8, .inr (.inr (r1 + 1))]) (c_X6_lastPoint G r1 M0 r11 h12) cs_Main_293 wd_951 wd_952 wd_953 ht4 rfl rfl rfl (Nat.le_of_ble_eq_true rfl) ⟨rfl, rfl⟩ ⟨by decide, by decide⟩ ⟨by decide, by decide⟩ d_X10_corner_43 ?_
        refine j_aload_n rfl d_X10_corner_46 rfl ?_
        refine j_getr fl_Main_71 tg_0 rv_0_11 d_X10_corner_47 ?_
        refine j_bind (fun r13 h14 => ?_)
        refine j_callS (y := y_X10_findCorners) (I' := i_X10_findCorners) (avs := [.inr (.inr (r1 + 1)), .inl r8, .inl r11, .inr (.inr 482)]) (st := []) (c_X10_findCorners G (r1 + 1) r8 r11 482 M0 r13 h14) cs_Main_296 wd_956 wd_745 rfl rfl (Nat.le_of_ble_eq_true rfl) ⟨rfl, rfl⟩ ⟨by decide, by decide⟩ ⟨by decide, by decide⟩ d_X10_corner_50 ?_
        refine j_istore (lv' := [some (.inr (.inr 0)), some (.inl a0), some (.inl a1), some (.inr (.inr r1)), some (.inl r8), some (.inl r13.1)]) d_X10_corner_53 (Nat.le_of_ble_eq_true rfl) rfl ?_
        refine j_iload_n rfl d_X10_corner_55 rfl ?_
        refine j_if_lt (tgt := 74) d_X10_corner_56 (by decide) (fun h15 => ?_) (fun h15 => ?_)
        · refine j_bipush ⟨by decide, by decide⟩ (by decide +kernel) d_X10_corner_74 ?_
          exact j_iret d_X10_corner_76 rfl rfl ⟨rfl, rfl⟩
        · refine j_iload_n rfl d_X10_corner_59 rfl ?_
          refine j_iload d_X10_corner_60 rfl ?_
          refine j_icmp_ge (tgt := 74) d_X10_corner_62 (by decide) (fun h16 => ?_) (fun h16 => ?_)
          · refine j_bipush ⟨by decide, by decide⟩ (by decide +kernel) d_X10_corner_74 ?_
            exact j_iret d_X10_corner_76 rfl rfl ⟨rfl, rfl⟩
          · refine j_iload_n rfl d_X10_corner_65 rfl ?_
            refine j_aload_n rfl d_X10_corner_66 rfl ?_
            refine j_getr fl_Main_71 tg_0 rv_0_11 d_X10_corner_67 ?_
            refine j_alen tg_482 (by decide) al_482 ⟨by decide, by decide⟩ (ty := .int) (by decide) d_X10_corner_70 ?_
            refine j_icmp_lt (tgt := 77) d_X10_corner_71 (by decide) (fun h17 => ?_) (fun h17 => ?_)
            · refine j_aload_n rfl d_X10_corner_77 rfl ?_
              refine j_getr fl_Main_71 tg_0 rv_0_11 d_X10_corner_78 ?_
              refine j_iload_n rfl d_X10_corner_81 rfl ?_
              refine j_iald tg_482 al_482 d_X10_corner_82 ?_
              exact j_iret d_X10_corner_83 rfl rfl ⟨rfl, rfl⟩
            · refine j_bipush ⟨by decide, by decide⟩ (by decide +kernel) d_X10_corner_74 ?_
              exact j_iret d_X10_corner_76 rfl rfl ⟨rfl, rfl⟩
      · refine j_bipush ⟨by decide, by decide⟩ (by decide +kernel) d_X10_corner_33 ?_
        exact j_iret d_X10_corner_35 rfl rfl ⟨rfl, rfl⟩
    · refine j_bipush ⟨by decide, by decide⟩ (by decide +kernel) d_X10_corner_19 ?_
      exact j_iret d_X10_corner_21 rfl rfl ⟨rfl, rfl⟩
set_option maxHeartbeats 4000000 in
set_option maxRecDepth 100000 in
theorem c_X10_corner (G : tp_G) (a0 : Int) (a1 : Int) (M0 : tp_M) (r : Int × tp_M) (h : f_X10_corner a0 a1 M0 = some r) (l : Launch) : Met l y_X10_corner (tp_ws y_X10_corner i_X10_corner) (tp_rm 2) (tp_Pc G [.inr (.inr 0), .inl a0, .inl a1] tp_NC (tp_st M0)) (tp_Q G (o_X10_corner r)) 0 0 (tp_A G) :=
  tp_met (I := i_X10_corner) (y := y_X10_corner) (by decide +kernel) (Eq.refl "TypesAtPrime") (Eq.refl "corner") (lv := [some (.inr (.inr 0)), some (.inl a0), some (.inl a1), none, none, none]) rfl (Nat.le_of_ble_eq_true rfl) (T_X10_corner G a0 a1 M0) h l
theorem cs_Main_304 : tp_CS "TypesAtPrime" 304 y_X6_has i_X6_has 1 := ⟨wd_968, wd_3, by decide, by decide, by decide +kernel⟩
theorem wd_965 : (.methodLink "TypesAtPrime" 304 ⟨"TypesAtPrime$Sheet", "has", "(I)Z"⟩ : Cond) ∈ lw_tbl := List.mem_append_right _ (List.mem_of_getElem? (i := 965) (by decide +kernel))
def y_X10_whyNot : MethodName := ⟨"TypesAtPrime", "whyNot", "(III)I"⟩
abbrev i_X10_whyNot : tp_I := (prog_1_method_27_code, "TypesAtPrime", (some .int), 5, "whyNot")
abbrev o_X10_whyNot (M : tp_M) : Int → tp_O := fun r => (some (.inl r), tp_NC, tp_st M)
theorem d_X10_whyNot_0 : decode prog_1_method_27_code 0 = .ok (.aload_n 0, 1) := by decide +kernel
theorem d_X10_whyNot_1 : decode prog_1_method_27_code 1 = .ok (.iload_n 1, 1) := by decide +kernel
theorem d_X10_whyNot_2 : decode prog_1_method_27_code 2 = .ok (.invokevirtual 280, 3) := by decide +kernel
theorem d_X10_whyNot_5 : decode prog_1_method_27_code 5 = .ok (.astore 4, 2) := by decide +kernel
theorem d_X10_whyNot_7 : decode prog_1_method_27_code 7 = .ok (.aload 4, 2) := by decide +kernel
theorem d_X10_whyNot_9 : decode prog_1_method_27_code 9 = .ok (.ifnonnull 5, 3) := by decide +kernel
theorem d_X10_whyNot_12 : decode prog_1_method_27_code 12 = .ok (.iconst (-1), 1) := by decide +kernel
theorem d_X10_whyNot_13 : decode prog_1_method_27_code 13 = .ok (.ireturn, 1) := by decide +kernel
theorem d_X10_whyNot_14 : decode prog_1_method_27_code 14 = .ok (.aload 4, 2) := by decide +kernel
theorem d_X10_whyNot_16 : decode prog_1_method_27_code 16 = .ok (.invokevirtual 284, 3) := by decide +kernel
theorem d_X10_whyNot_19 : decode prog_1_method_27_code 19 = .ok (.ifCond .eq 6, 3) := by decide +kernel
theorem d_X10_whyNot_22 : decode prog_1_method_27_code 22 = .ok (.bipush (-11), 2) := by decide +kernel
theorem d_X10_whyNot_24 : decode prog_1_method_27_code 24 = .ok (.ireturn, 1) := by decide +kernel
theorem d_X10_whyNot_25 : decode prog_1_method_27_code 25 = .ok (.aload 4, 2) := by decide +kernel
theorem d_X10_whyNot_27 : decode prog_1_method_27_code 27 = .ok (.iload_n 2, 1) := by decide +kernel
theorem d_X10_whyNot_28 : decode prog_1_method_27_code 28 = .ok (.invokevirtual 304, 3) := by decide +kernel
theorem d_X10_whyNot_31 : decode prog_1_method_27_code 31 = .ok (.ifCond .eq 12, 3) := by decide +kernel
theorem d_X10_whyNot_34 : decode prog_1_method_27_code 34 = .ok (.aload 4, 2) := by decide +kernel
theorem d_X10_whyNot_36 : decode prog_1_method_27_code 36 = .ok (.iload_n 3, 1) := by decide +kernel
theorem d_X10_whyNot_37 : decode prog_1_method_27_code 37 = .ok (.invokevirtual 304, 3) := by decide +kernel
theorem d_X10_whyNot_40 : decode prog_1_method_27_code 40 = .ok (.ifCond .ne 6, 3) := by decide +kernel
theorem d_X10_whyNot_43 : decode prog_1_method_27_code 43 = .ok (.bipush (-12), 2) := by decide +kernel
theorem d_X10_whyNot_45 : decode prog_1_method_27_code 45 = .ok (.ireturn, 1) := by decide +kernel
theorem d_X10_whyNot_46 : decode prog_1_method_27_code 46 = .ok (.iload_n 2, 1) := by decide +kernel
theorem d_X10_whyNot_47 : decode prog_1_method_27_code 47 = .ok (.iload_n 3, 1) := by decide +kernel
theorem d_X10_whyNot_48 : decode prog_1_method_27_code 48 = .ok (.if_icmp .ne 8, 3) := by decide +kernel
theorem d_X10_whyNot_51 : decode prog_1_method_27_code 51 = .ok (.bipush (-15), 2) := by decide +kernel
theorem d_X10_whyNot_53 : decode prog_1_method_27_code 53 = .ok (.goto 4, 3) := by decide +kernel
theorem d_X10_whyNot_56 : decode prog_1_method_27_code 56 = .ok (.iconst 0, 1) := by decide +kernel
theorem d_X10_whyNot_57 : decode prog_1_method_27_code 57 = .ok (.ireturn, 1) := by decide +kernel
def f_X10_whyNot (a0 : Int) (a1 : Int) (a2 : Int) (M0 : tp_M) : Option (Int) :=
  (f_X10_sheetAt a0 M0).bind fun r1 =>
  if r1 = -1 then
    some (-1)
  else
    if tp_tg r1 = 6 then
      (f_X6_isMissing r1 M0).bind fun r5 =>
      if r5 = 0 then
        (f_X6_has r1 a1 M0).bind fun r8 =>
        if r8 = 0 then
          some (-12)
        else
          (f_X6_has r1 a2 M0).bind fun r11 =>
          if ¬ r11 = 0 then
            if ¬ a1 = a2 then
              some 0
            else
              some (-15)
          else
            some (-12)
      else
        some (-11) else none
set_option maxHeartbeats 4000000 in
set_option maxRecDepth 100000 in
theorem T_X10_whyNot (G : tp_G) (a0 : Int) (a1 : Int) (a2 : Int) (M0 : tp_M) : tp_J i_X10_whyNot (tp_rm 1) G 0 0 (o_X10_whyNot M0) tp_NC (tp_st M0) 0 0 [some (.inr (.inr 0)), some (.inl a0), some (.inl a1), some (.inl a2), none] 0 [] (f_X10_whyNot a0 a1 a2 M0) := by
  unfold f_X10_whyNot
  refine j_aload_n rfl d_X10_whyNot_0 rfl ?_
  refine j_iload_n rfl d_X10_whyNot_1 rfl ?_
  refine j_bind (fun r1 h2 => ?_)
  refine j_callV (y := y_X10_sheetAt) (I' := i_X10_sheetAt) (avs := [.inl a0]) (c := 0) (st := []) (c_X10_sheetAt G a0 M0 r1 h2) cs_Main_280 wd_939 wd_941 ws_33 tg_0 rfl rfl rfl (Nat.le_of_ble_eq_true rfl) ⟨rfl, rfl⟩ ⟨by decide, by decide⟩ ⟨by decide, by decide⟩ d_X10_whyNot_2 ?_
  refine j_astore (lv' := [some (.inr (.inr 0)), some (.inl a0), some (.inl a1), some (.inl a2), some (.inr (.inr r1))]) d_X10_whyNot_5 (Nat.le_of_ble_eq_true rfl) rfl ?_
  refine j_aload d_X10_whyNot_7 rfl ?_
  refine j_ifnonnull (tgt := 14) d_X10_whyNot_9 (by decide) (fun h3 => ?_) (fun h3 => ?_)
  · refine j_iconst ⟨by decide, by decide⟩ d_X10_whyNot_12 ?_
    exact j_iret d_X10_whyNot_13 rfl rfl ⟨rfl, rfl⟩
  · refine j_aload d_X10_whyNot_14 rfl ?_
    refine tp_chk (fun ht4 => ?_)
    refine j_bind (fun r5 h6 => ?_)
    refine j_callV (y := y_X6_isMissing) (I' := i_X6_isMissing) (avs := []) (c := r1) (st := []) (c_X6_isMissing G r1 M0 r5 h6) cs_Main_284 wd_943 wd_944 wd_945 ht4 rfl rfl rfl (Nat.le_of_ble_eq_true rfl) ⟨rfl, rfl⟩ ⟨by decide, by decide⟩ ⟨by decide, by decide⟩ d_X10_whyNot_16 ?_
    refine j_if_eq (tgt := 25) d_X10_whyNot_19 (by decide) (fun h7 => ?_) (fun h7 => ?_)
    · refine j_aload d_X10_whyNot_25 rfl ?_
      refine j_iload_n rfl d_X10_whyNot_27 rfl ?_
      refine j_bind (fun r8 h9 => ?_)
      refine j_callV (y := y_X6_has) (I' := i_X6_has) (avs := [.inl a1]) (c := r1) (st := []) (c_X6_has G r1 a1 M0 r8 h9) cs_Main_304 wd_965 wd_966 wd_967 ht4 rfl rfl rfl (Nat.le_of_ble_eq_true rfl) ⟨rfl, rfl⟩ ⟨by decide, by decide⟩ ⟨by decide, by decide⟩ d_X10_whyNot_28 ?_
      refine j_if_eq (tgt := 43) d_X10_whyNot_31 (by decide) (fun h10 => ?_) (fun h10 => ?_)
      · refine j_bipush ⟨by decide, by decide⟩ (by decide +kernel) d_X10_whyNot_43 ?_
        exact j_iret d_X10_whyNot_45 rfl rfl ⟨rfl, rfl⟩
      · refine j_aload d_X10_whyNot_34 rfl ?_
        refine j_iload_n rfl d_X10_whyNot_36 rfl ?_
        refine j_bind (fun r11 h12 => ?_)
        refine j_callV (y := y_X6_has) (I' := i_X6_has) (avs := [.inl a2]) (c := r1) (st := []) (c_X6_has G r1 a2 M0 r11 h12) cs_Main_304 wd_965 wd_966 wd_967 ht4 rfl rfl rfl (Nat.le_of_ble_eq_true rfl) ⟨rfl, rfl⟩ ⟨by decide, by decide⟩ ⟨by decide, by decide⟩ d_X10_whyNot_37 ?_
        refine j_if_ne (tgt := 46) d_X10_whyNot_40 (by decide) (fun h13 => ?_) (fun h13 => ?_)
        · refine j_iload_n rfl d_X10_whyNot_46 rfl ?_
          refine j_iload_n rfl d_X10_whyNot_47 rfl ?_
          refine j_icmp_ne (tgt := 56) d_X10_whyNot_48 (by decide) (fun h14 => ?_) (fun h14 => ?_)
          · refine j_iconst ⟨by decide, by decide⟩ d_X10_whyNot_56 ?_
            exact j_iret d_X10_whyNot_57 rfl rfl ⟨rfl, rfl⟩
          · refine j_bipush ⟨by decide, by decide⟩ (by decide +kernel) d_X10_whyNot_51 ?_
            refine j_goto (tgt := 57) d_X10_whyNot_53 (by decide) ?_
            exact j_iret d_X10_whyNot_57 rfl rfl ⟨rfl, rfl⟩
        · refine j_bipush ⟨by decide, by decide⟩ (by decide +kernel) d_X10_whyNot_43 ?_
          exact j_iret d_X10_whyNot_45 rfl rfl ⟨rfl, rfl⟩
    · refine j_bipush ⟨by decide, by decide⟩ (by decide +kernel) d_X10_whyNot_22 ?_
      exact j_iret d_X10_whyNot_24 rfl rfl ⟨rfl, rfl⟩
set_option maxHeartbeats 4000000 in
set_option maxRecDepth 100000 in
theorem c_X10_whyNot (G : tp_G) (a0 : Int) (a1 : Int) (a2 : Int) (M0 : tp_M) (r : Int) (h : f_X10_whyNot a0 a1 a2 M0 = some r) (l : Launch) : Met l y_X10_whyNot (tp_ws y_X10_whyNot i_X10_whyNot) (tp_rm 1) (tp_Pc G [.inr (.inr 0), .inl a0, .inl a1, .inl a2] tp_NC (tp_st M0)) (tp_Q G ((o_X10_whyNot M0) r)) 0 0 (tp_A G) :=
  tp_met (I := i_X10_whyNot) (y := y_X10_whyNot) (by decide +kernel) (Eq.refl "TypesAtPrime") (Eq.refl "whyNot") (lv := [some (.inr (.inr 0)), some (.inl a0), some (.inl a1), some (.inl a2), none]) rfl (Nat.le_of_ble_eq_true rfl) (T_X10_whyNot G a0 a1 a2 M0) h l
theorem wd_964 : (.code ⟨"TypesAtPrime", "whyNot", "(III)I"⟩ prog_1_method_27_code 5 (some .int) : Cond) ∈ lw_tbl := List.mem_append_right _ (List.mem_of_getElem? (i := 964) (by decide +kernel))
theorem cs_Main_300 : tp_CS "TypesAtPrime" 300 y_X10_whyNot i_X10_whyNot 3 := ⟨wd_964, wd_1, by decide, by decide, by decide +kernel⟩
theorem wd_961 : (.methodLink "TypesAtPrime" 300 ⟨"TypesAtPrime", "whyNot", "(III)I"⟩ : Cond) ∈ lw_tbl := List.mem_append_right _ (List.mem_of_getElem? (i := 961) (by decide +kernel))
theorem wd_962 : (.instanceMethod ⟨"TypesAtPrime", "whyNot", "(III)I"⟩ : Cond) ∈ lw_tbl := List.mem_append_right _ (List.mem_of_getElem? (i := 962) (by decide +kernel))
theorem wd_963 : (.selects "TypesAtPrime" ⟨"TypesAtPrime", "whyNot", "(III)I"⟩ ⟨"TypesAtPrime", "whyNot", "(III)I"⟩ : Cond) ∈ lw_tbl := List.mem_append_right _ (List.mem_of_getElem? (i := 963) (by decide +kernel))
def y_X10_slope : MethodName := ⟨"TypesAtPrime", "slope", "(IIII)J"⟩
abbrev i_X10_slope : tp_I := (prog_1_method_26_code, "TypesAtPrime", (some .long), 10, "slope")
abbrev o_X10_slope (M : tp_M) : Int → tp_O := fun r => (some (.inr (.inl r)), tp_NC, tp_st M)
theorem d_X10_slope_0 : decode prog_1_method_26_code 0 = .ok (.iload 4, 2) := by decide +kernel
theorem d_X10_slope_2 : decode prog_1_method_26_code 2 = .ok (.ifCond .lt 19, 3) := by decide +kernel
theorem d_X10_slope_5 : decode prog_1_method_26_code 5 = .ok (.iload 4, 2) := by decide +kernel
theorem d_X10_slope_7 : decode prog_1_method_26_code 7 = .ok (.iconst 1, 1) := by decide +kernel
theorem d_X10_slope_8 : decode prog_1_method_26_code 8 = .ok (.if_icmp .gt 13, 3) := by decide +kernel
theorem d_X10_slope_11 : decode prog_1_method_26_code 11 = .ok (.aload_n 0, 1) := by decide +kernel
theorem d_X10_slope_12 : decode prog_1_method_26_code 12 = .ok (.iload_n 1, 1) := by decide +kernel
theorem d_X10_slope_13 : decode prog_1_method_26_code 13 = .ok (.iload_n 2, 1) := by decide +kernel
theorem d_X10_slope_14 : decode prog_1_method_26_code 14 = .ok (.iload_n 3, 1) := by decide +kernel
theorem d_X10_slope_15 : decode prog_1_method_26_code 15 = .ok (.invokevirtual 300, 3) := by decide +kernel
theorem d_X10_slope_18 : decode prog_1_method_26_code 18 = .ok (.ifCond .eq 7, 3) := by decide +kernel
theorem d_X10_slope_21 : decode prog_1_method_26_code 21 = .ok (.ldc2_w 113, 3) := by decide +kernel
theorem d_X10_slope_24 : decode prog_1_method_26_code 24 = .ok (.lreturn, 1) := by decide +kernel
theorem d_X10_slope_25 : decode prog_1_method_26_code 25 = .ok (.aload_n 0, 1) := by decide +kernel
theorem d_X10_slope_26 : decode prog_1_method_26_code 26 = .ok (.iload_n 1, 1) := by decide +kernel
theorem d_X10_slope_27 : decode prog_1_method_26_code 27 = .ok (.invokevirtual 280, 3) := by decide +kernel
theorem d_X10_slope_30 : decode prog_1_method_26_code 30 = .ok (.astore 5, 2) := by decide +kernel
theorem d_X10_slope_32 : decode prog_1_method_26_code 32 = .ok (.aload 5, 2) := by decide +kernel
theorem d_X10_slope_34 : decode prog_1_method_26_code 34 = .ok (.ifnull 21, 3) := by decide +kernel
theorem d_X10_slope_37 : decode prog_1_method_26_code 37 = .ok (.aload 5, 2) := by decide +kernel
theorem d_X10_slope_39 : decode prog_1_method_26_code 39 = .ok (.iload_n 2, 1) := by decide +kernel
theorem d_X10_slope_40 : decode prog_1_method_26_code 40 = .ok (.invokevirtual 304, 3) := by decide +kernel
theorem d_X10_slope_43 : decode prog_1_method_26_code 43 = .ok (.ifCond .eq 12, 3) := by decide +kernel
theorem d_X10_slope_46 : decode prog_1_method_26_code 46 = .ok (.aload 5, 2) := by decide +kernel
theorem d_X10_slope_48 : decode prog_1_method_26_code 48 = .ok (.iload_n 3, 1) := by decide +kernel
theorem d_X10_slope_49 : decode prog_1_method_26_code 49 = .ok (.invokevirtual 304, 3) := by decide +kernel
theorem d_X10_slope_52 : decode prog_1_method_26_code 52 = .ok (.ifCond .ne 7, 3) := by decide +kernel
theorem d_X10_slope_55 : decode prog_1_method_26_code 55 = .ok (.ldc2_w 113, 3) := by decide +kernel
theorem d_X10_slope_58 : decode prog_1_method_26_code 58 = .ok (.lreturn, 1) := by decide +kernel
theorem d_X10_slope_59 : decode prog_1_method_26_code 59 = .ok (.aload 5, 2) := by decide +kernel
theorem d_X10_slope_61 : decode prog_1_method_26_code 61 = .ok (.getfield 291, 3) := by decide +kernel
theorem d_X10_slope_64 : decode prog_1_method_26_code 64 = .ok (.iload_n 2, 1) := by decide +kernel
theorem d_X10_slope_65 : decode prog_1_method_26_code 65 = .ok (.iaload, 1) := by decide +kernel
theorem d_X10_slope_66 : decode prog_1_method_26_code 66 = .ok (.i2l, 1) := by decide +kernel
theorem d_X10_slope_67 : decode prog_1_method_26_code 67 = .ok (.aload 5, 2) := by decide +kernel
theorem d_X10_slope_69 : decode prog_1_method_26_code 69 = .ok (.getfield 291, 3) := by decide +kernel
theorem d_X10_slope_72 : decode prog_1_method_26_code 72 = .ok (.iload_n 3, 1) := by decide +kernel
theorem d_X10_slope_73 : decode prog_1_method_26_code 73 = .ok (.iaload, 1) := by decide +kernel
theorem d_X10_slope_74 : decode prog_1_method_26_code 74 = .ok (.i2l, 1) := by decide +kernel
theorem d_X10_slope_75 : decode prog_1_method_26_code 75 = .ok (.lsub, 1) := by decide +kernel
theorem d_X10_slope_76 : decode prog_1_method_26_code 76 = .ok (.lstore 6, 2) := by decide +kernel
theorem d_X10_slope_78 : decode prog_1_method_26_code 78 = .ok (.iload_n 3, 1) := by decide +kernel
theorem d_X10_slope_79 : decode prog_1_method_26_code 79 = .ok (.i2l, 1) := by decide +kernel
theorem d_X10_slope_80 : decode prog_1_method_26_code 80 = .ok (.iload_n 2, 1) := by decide +kernel
theorem d_X10_slope_81 : decode prog_1_method_26_code 81 = .ok (.i2l, 1) := by decide +kernel
theorem d_X10_slope_82 : decode prog_1_method_26_code 82 = .ok (.lsub, 1) := by decide +kernel
theorem d_X10_slope_83 : decode prog_1_method_26_code 83 = .ok (.lstore 8, 2) := by decide +kernel
theorem d_X10_slope_85 : decode prog_1_method_26_code 85 = .ok (.lload 8, 2) := by decide +kernel
theorem d_X10_slope_87 : decode prog_1_method_26_code 87 = .ok (.lconst 0, 1) := by decide +kernel
theorem d_X10_slope_88 : decode prog_1_method_26_code 88 = .ok (.lcmp, 1) := by decide +kernel
theorem d_X10_slope_89 : decode prog_1_method_26_code 89 = .ok (.ifCond .ne 7, 3) := by decide +kernel
theorem d_X10_slope_92 : decode prog_1_method_26_code 92 = .ok (.ldc2_w 113, 3) := by decide +kernel
theorem d_X10_slope_95 : decode prog_1_method_26_code 95 = .ok (.lreturn, 1) := by decide +kernel
theorem d_X10_slope_96 : decode prog_1_method_26_code 96 = .ok (.iload 4, 2) := by decide +kernel
theorem d_X10_slope_98 : decode prog_1_method_26_code 98 = .ok (.ifCond .ne 11, 3) := by decide +kernel
theorem d_X10_slope_101 : decode prog_1_method_26_code 101 = .ok (.lload 6, 2) := by decide +kernel
theorem d_X10_slope_103 : decode prog_1_method_26_code 103 = .ok (.lload 8, 2) := by decide +kernel
theorem d_X10_slope_105 : decode prog_1_method_26_code 105 = .ok (.ldiv, 1) := by decide +kernel
theorem d_X10_slope_106 : decode prog_1_method_26_code 106 = .ok (.goto 8, 3) := by decide +kernel
theorem d_X10_slope_109 : decode prog_1_method_26_code 109 = .ok (.lload 6, 2) := by decide +kernel
theorem d_X10_slope_111 : decode prog_1_method_26_code 111 = .ok (.lload 8, 2) := by decide +kernel
theorem d_X10_slope_113 : decode prog_1_method_26_code 113 = .ok (.lrem, 1) := by decide +kernel
theorem d_X10_slope_114 : decode prog_1_method_26_code 114 = .ok (.lreturn, 1) := by decide +kernel
def f_X10_slope (a0 : Int) (a1 : Int) (a2 : Int) (a3 : Int) (M0 : tp_M) : Option (Int) :=
  if a3 < 0 then
    some (-9223372036854775808)
  else
    if 1 < a3 then
      some (-9223372036854775808)
    else
      (f_X10_whyNot a0 a1 a2 M0).bind fun r3 =>
      if r3 = 0 then
        (f_X10_sheetAt a0 M0).bind fun r6 =>
        if r6 = -1 then
          some (-9223372036854775808)
        else
          if tp_tg r6 = 6 then
            (f_X6_has r6 a1 M0).bind fun r10 =>
            if r10 = 0 then
              some (-9223372036854775808)
            else
              (f_X6_has r6 a2 M0).bind fun r13 =>
              if ¬ r13 = 0 then
                if 0 ≤ a1 ∧ a1 < 40 then
                  if 0 ≤ a2 ∧ a2 < 40 then
                    tp_lt ((tp_wl ((M0 (r6 + 1) a1) - (M0 (r6 + 1) a2)))) fun y16 =>
                    tp_lt ((tp_wl (a2 - a1))) fun y17 =>
                    if ¬ y17 = 0 then
                      if ¬ a3 = 0 then
                        if y17 = 0 then none else
                          some (Int.tmod y16 y17)
                      else
                        if y17 = 0 then none else
                          some (tp_wl (Int.tdiv y16 y17))
                    else
                      some (-9223372036854775808) else none else none
              else
                some (-9223372036854775808) else none
      else
        some (-9223372036854775808)
set_option maxHeartbeats 4000000 in
set_option maxRecDepth 100000 in
theorem T_X10_slope (G : tp_G) (a0 : Int) (a1 : Int) (a2 : Int) (a3 : Int) (M0 : tp_M) : tp_J i_X10_slope (tp_rm 2) G 0 0 (o_X10_slope M0) tp_NC (tp_st M0) 0 0 [some (.inr (.inr 0)), some (.inl a0), some (.inl a1), some (.inl a2), some (.inl a3), none, none, none, none, none] 0 [] (f_X10_slope a0 a1 a2 a3 M0) := by
  unfold f_X10_slope
  refine j_iload d_X10_slope_0 rfl ?_
  refine j_if_lt (tgt := 21) d_X10_slope_2 (by decide) (fun h1 => ?_) (fun h1 => ?_)
  · refine j_ldc2 (x := (-9223372036854775808)) ⟨by decide, by decide⟩ (show Cond.constantLong _ _ _ ∈ lw_tbl from wd_526) d_X10_slope_21 ?_
    exact j_lret d_X10_slope_24 rfl rfl ⟨rfl, rfl⟩
  · refine j_iload d_X10_slope_5 rfl ?_
    refine j_iconst ⟨by decide, by decide⟩ d_X10_slope_7 ?_
    refine j_icmp_gt (tgt := 21) d_X10_slope_8 (by decide) (fun h2 => ?_) (fun h2 => ?_)
    · refine j_ldc2 (x := (-9223372036854775808)) ⟨by decide, by decide⟩ (show Cond.constantLong _ _ _ ∈ lw_tbl from wd_526) d_X10_slope_21 ?_
      exact j_lret d_X10_slope_24 rfl rfl ⟨rfl, rfl⟩
    · refine j_aload_n rfl d_X10_slope_11 rfl ?_
      refine j_iload_n rfl d_X10_slope_12 rfl ?_
      refine j_iload_n rfl d_X10_slope_13 rfl ?_
      refine j_iload_n rfl d_X10_slope_14 rfl ?_
      refine j_bind (fun r3 h4 => ?_)
      refine j_callV (y := y_X10_whyNot) (I' := i_X10_whyNot) (avs := [.inl a0, .inl a1, .inl a2]) (c := 0) (st := []) (c_X10_whyNot G a0 a1 a2 M0 r3 h4) cs_Main_300 wd_961 wd_962 wd_963 tg_0 rfl rfl rfl (Nat.le_of_ble_eq_true rfl) ⟨rfl, rfl⟩ ⟨by decide, by decide⟩ ⟨by decide, by decide⟩ d_X10_slope_15 ?_
      refine j_if_eq (tgt := 25) d_X10_slope_18 (by decide) (fun h5 => ?_) (fun h5 => ?_)
      · refine j_aload_n rfl d_X10_slope_25 rfl ?_
        refine j_iload_n rfl d_X10_slope_26 rfl ?_
        refine j_bind (fun r6 h7 => ?_)
        refine j_callV (y := y_X10_sheetAt) (I' := i_X10_sheetAt) (avs := [.inl a0]) (c := 0) (st := []) (c_X10_sheetAt G a0 M0 r6 h7) cs_Main_280 wd_939 wd_941 ws_33 tg_0 rfl rfl rfl (Nat.le_of_ble_eq_true rfl) ⟨rfl, rfl⟩ ⟨by decide, by decide⟩ ⟨by decide, by decide⟩ d_X10_slope_27 ?_
        refine j_astore (lv' := [some (.inr (.inr 0)), some (.inl a0), some (.inl a1), some (.inl a2), some (.inl a3), some (.inr (.inr r6)), none, none, none, none]) d_X10_slope_30 (Nat.le_of_ble_eq_true rfl) rfl ?_
        refine j_aload d_X10_slope_32 rfl ?_
        refine j_ifnull (tgt := 55) d_X10_slope_34 (by decide) (fun h8 => ?_) (fun h8 => ?_)
        · refine j_ldc2 (x := (-9223372036854775808)) ⟨by decide, by decide⟩ (show Cond.constantLong _ _ _ ∈ lw_tbl from wd_526) d_X10_slope_55 ?_
          exact j_lret d_X10_slope_58 rfl rfl ⟨rfl, rfl⟩
        · refine j_aload d_X10_slope_37 rfl ?_
          refine j_iload_n rfl d_X10_slope_39 rfl ?_
          refine tp_chk (fun ht9 => ?_)
          refine j_bind (fun r10 h11 => ?_)
          refine j_callV (y := y_X6_has) (I' := i_X6_has) (avs := [.inl a1]) (c := r6) (st := []) (c_X6_has G r6 a1 M0 r10 h11) cs_Main_304 wd_965 wd_966 wd_967 ht9 rfl rfl rfl (Nat.le_of_ble_eq_true rfl) ⟨rfl, rfl⟩ ⟨by decide, by decide⟩ ⟨by decide, by decide⟩ d_X10_slope_40 ?_
          refine j_if_eq (tgt := 55) d_X10_slope_43 (by decide) (fun h12 => ?_) (fun h12 => ?_)
          · refine j_ldc2 (x := (-9223372036854775808)) ⟨by decide, by decide⟩ (show Cond.constantLong _ _ _ ∈ lw_tbl from wd_526) d_X10_slope_55 ?_
            exact j_lret d_X10_slope_58 rfl rfl ⟨rfl, rfl⟩
          · refine j_aload d_X10_slope_46 rfl ?_
            refine j_iload_n rfl d_X10_slope_48 rfl ?_
            refine j_bind (fun r13 h14 => ?_)
            refine j_callV (y := y_X6_has) (I' := i_X6_has) (avs := [.inl a2]) (c := r6) (st := []) (c_X6_has G r6 a2 M0 r13 h14) cs_Main_304 wd_965 wd_966 wd_967 ht9 rfl rfl rfl (Nat.le_of_ble_eq_true rfl) ⟨rfl, rfl⟩ ⟨by decide, by decide⟩ ⟨by decide, by decide⟩ d_X10_slope_49 ?_
            refine j_if_ne (tgt := 59) d_X10_slope_52 (by decide) (fun h15 => ?_) (fun h15 => ?_)
            · refine j_aload d_X10_slope_59 rfl ?_
              refine j_getr fl_Main_291 ht9 (fam_6_2 _ ht9).1 d_X10_slope_61 ?_
              refine j_iload_n rfl d_X10_slope_64 rfl ?_
              refine j_iald ((fam_6_2 _ ht9).2.1) ((fam_6_2 _ ht9).2.2) d_X10_slope_65 ?_
              refine j_i2l d_X10_slope_66 ?_
              refine j_aload d_X10_slope_67 rfl ?_
              refine j_getr fl_Main_291 ht9 (fam_6_2 _ ht9).1 d_X10_slope_69 ?_
              refine j_iload_n rfl d_X10_slope_72 rfl ?_
              refine j_iald ((fam_6_2 _ ht9).2.1) ((fam_6_2 _ ht9).2.2) d_X10_slope_73 ?_
              refine j_i2l d_X10_slope_74 ?_
              refine j_lsub d_X10_slope_75 ?_
              refine j_nmL (fun y16 hy16 => ?_)
              refine j_lstore (lv' := [some (.inr (.inr 0)), some (.inl a0), some (.inl a1), some (.inl a2), some (.inl a3), some (.inr (.inr r6)), some (.inr (.inl y16)), none, none, none]) d_X10_slope_76 (Nat.le_of_ble_eq_true rfl) rfl ?_
              refine j_iload_n rfl d_X10_slope_78 rfl ?_
              refine j_i2l d_X10_slope_79 ?_
              refine j_iload_n rfl d_X10_slope_80 rfl ?_
              refine j_i2l d_X10_slope_81 ?_
              refine j_lsub d_X10_slope_82 ?_
              refine j_nmL (fun y17 hy17 => ?_)
              refine j_lstore (lv' := [some (.inr (.inr 0)), some (.inl a0), some (.inl a1), some (.inl a2), some (.inl a3), some (.inr (.inr r6)), some (.inr (.inl y16)), none, some (.inr (.inl y17)), none]) d_X10_slope_83 (Nat.le_of_ble_eq_true rfl) rfl ?_
              refine j_lload d_X10_slope_85 rfl ?_
              refine j_lconst (x := 0) ⟨by decide, by decide⟩ (by decide +kernel) d_X10_slope_87 ?_
              refine j_lcmp_ne (tgt := 96) d_X10_slope_88 rfl d_X10_slope_89 (by decide) (fun h18 => ?_) (fun h18 => ?_)
              · refine j_iload d_X10_slope_96 rfl ?_
                refine j_if_ne (tgt := 109) d_X10_slope_98 (by decide) (fun h19 => ?_) (fun h19 => ?_)
                · refine j_lload d_X10_slope_109 rfl ?_
                  refine j_lload d_X10_slope_111 rfl ?_
                  refine j_lrem d_X10_slope_113 ?_
                  exact j_lret d_X10_slope_114 rfl rfl ⟨rfl, rfl⟩
                · refine j_lload d_X10_slope_101 rfl ?_
                  refine j_lload d_X10_slope_103 rfl ?_
                  refine j_ldiv d_X10_slope_105 ?_
                  refine j_goto (tgt := 114) d_X10_slope_106 (by decide) ?_
                  exact j_lret d_X10_slope_114 rfl rfl ⟨rfl, rfl⟩
              · refine j_ldc2 (x := (-9223372036854775808)) ⟨by decide, by decide⟩ (show Cond.constantLong _ _ _ ∈ lw_tbl from wd_526) d_X10_slope_92 ?_
                exact j_lret d_X10_slope_95 rfl rfl ⟨rfl, rfl⟩
            · refine j_ldc2 (x := (-9223372036854775808)) ⟨by decide, by decide⟩ (show Cond.constantLong _ _ _ ∈ lw_tbl from wd_526) d_X10_slope_55 ?_
              exact j_lret d_X10_slope_58 rfl rfl ⟨rfl, rfl⟩
      · refine j_ldc2 (x := (-9223372036854775808)) ⟨by decide, by decide⟩ (show Cond.constantLong _ _ _ ∈ lw_tbl from wd_526) d_X10_slope_21 ?_
        exact j_lret d_X10_slope_24 rfl rfl ⟨rfl, rfl⟩
set_option maxHeartbeats 4000000 in
set_option maxRecDepth 100000 in
theorem c_X10_slope (G : tp_G) (a0 : Int) (a1 : Int) (a2 : Int) (a3 : Int) (M0 : tp_M) (r : Int) (h : f_X10_slope a0 a1 a2 a3 M0 = some r) (l : Launch) : Met l y_X10_slope (tp_ws y_X10_slope i_X10_slope) (tp_rm 2) (tp_Pc G [.inr (.inr 0), .inl a0, .inl a1, .inl a2, .inl a3] tp_NC (tp_st M0)) (tp_Q G ((o_X10_slope M0) r)) 0 0 (tp_A G) :=
  tp_met (I := i_X10_slope) (y := y_X10_slope) (by decide +kernel) (Eq.refl "TypesAtPrime") (Eq.refl "slope") (lv := [some (.inr (.inr 0)), some (.inl a0), some (.inl a1), some (.inl a2), some (.inl a3), none, none, none, none, none]) rfl (Nat.le_of_ble_eq_true rfl) (T_X10_slope G a0 a1 a2 a3 M0) h l
theorem wd_60 : (.fieldLink "TypesAtPrime" 307 "TypesAtPrime$Sheet" "size" "I" : Cond) ∈ lw_tbl := List.mem_append_right _ (List.mem_of_getElem? (i := 60) (by decide +kernel))
theorem fl_Main_307 : tp_F "TypesAtPrime" 307 6 1 0 := ⟨_, _, _, rfl, by decide, rfl, wd_60, rfl, by decide⟩
theorem wd_974 : (.methodLink "TypesAtPrime" 310 ⟨"java/lang/Math", "min", "(II)I"⟩ : Cond) ∈ lw_tbl := List.mem_append_right _ (List.mem_of_getElem? (i := 974) (by decide +kernel))
theorem wd_978 : (.code ⟨"TypesAtPrime$Sheet", "put", "(II)V"⟩ prog_8_method_6_code 3 (none : Option Jvm.ClassFile.FieldType) : Cond) ∈ lw_tbl := List.mem_append_right _ (List.mem_of_getElem? (i := 978) (by decide +kernel))
theorem cs_Main_316 : tp_CS "TypesAtPrime" 316 y_X6_put i_X6_put 2 := ⟨wd_978, wd_3, by decide, by decide, by decide +kernel⟩
theorem wd_975 : (.methodLink "TypesAtPrime" 316 ⟨"TypesAtPrime$Sheet", "put", "(II)V"⟩ : Cond) ∈ lw_tbl := List.mem_append_right _ (List.mem_of_getElem? (i := 975) (by decide +kernel))
theorem wd_976 : (.instanceMethod ⟨"TypesAtPrime$Sheet", "put", "(II)V"⟩ : Cond) ∈ lw_tbl := List.mem_append_right _ (List.mem_of_getElem? (i := 976) (by decide +kernel))
theorem wd_977 : (.selects "TypesAtPrime$Sheet" ⟨"TypesAtPrime$Sheet", "put", "(II)V"⟩ ⟨"TypesAtPrime$Sheet", "put", "(II)V"⟩ : Cond) ∈ lw_tbl := List.mem_append_right _ (List.mem_of_getElem? (i := 977) (by decide +kernel))
def y_X10_spill : MethodName := ⟨"TypesAtPrime", "spill", "(III)I"⟩
abbrev i_X10_spill : tp_I := (prog_1_method_28_code, "TypesAtPrime", (some .int), 8, "spill")
abbrev o_X10_spill : Int × tp_M → tp_O := fun r => (some (.inl r.1), tp_NC, tp_st r.2)
theorem d_X10_spill_0 : decode prog_1_method_28_code 0 = .ok (.aload_n 0, 1) := by decide +kernel
theorem d_X10_spill_1 : decode prog_1_method_28_code 1 = .ok (.iload_n 2, 1) := by decide +kernel
theorem d_X10_spill_2 : decode prog_1_method_28_code 2 = .ok (.invokevirtual 280, 3) := by decide +kernel
theorem d_X10_spill_5 : decode prog_1_method_28_code 5 = .ok (.astore 4, 2) := by decide +kernel
theorem d_X10_spill_7 : decode prog_1_method_28_code 7 = .ok (.aload 4, 2) := by decide +kernel
theorem d_X10_spill_9 : decode prog_1_method_28_code 9 = .ok (.ifnonnull 5, 3) := by decide +kernel
theorem d_X10_spill_12 : decode prog_1_method_28_code 12 = .ok (.iconst (-1), 1) := by decide +kernel
theorem d_X10_spill_13 : decode prog_1_method_28_code 13 = .ok (.ireturn, 1) := by decide +kernel
theorem d_X10_spill_14 : decode prog_1_method_28_code 14 = .ok (.aload_n 0, 1) := by decide +kernel
theorem d_X10_spill_15 : decode prog_1_method_28_code 15 = .ok (.getfield 51, 3) := by decide +kernel
theorem d_X10_spill_18 : decode prog_1_method_28_code 18 = .ok (.iload_n 1, 1) := by decide +kernel
theorem d_X10_spill_19 : decode prog_1_method_28_code 19 = .ok (.invokevirtual 189, 3) := by decide +kernel
theorem d_X10_spill_22 : decode prog_1_method_28_code 22 = .ok (.astore 5, 2) := by decide +kernel
theorem d_X10_spill_24 : decode prog_1_method_28_code 24 = .ok (.aload 5, 2) := by decide +kernel
theorem d_X10_spill_26 : decode prog_1_method_28_code 26 = .ok (.ifnonnull 6, 3) := by decide +kernel
theorem d_X10_spill_29 : decode prog_1_method_28_code 29 = .ok (.bipush (-2), 2) := by decide +kernel
theorem d_X10_spill_31 : decode prog_1_method_28_code 31 = .ok (.ireturn, 1) := by decide +kernel
theorem d_X10_spill_32 : decode prog_1_method_28_code 32 = .ok (.aload 4, 2) := by decide +kernel
theorem d_X10_spill_34 : decode prog_1_method_28_code 34 = .ok (.invokevirtual 284, 3) := by decide +kernel
theorem d_X10_spill_37 : decode prog_1_method_28_code 37 = .ok (.ifCond .eq 6, 3) := by decide +kernel
theorem d_X10_spill_40 : decode prog_1_method_28_code 40 = .ok (.bipush (-11), 2) := by decide +kernel
theorem d_X10_spill_42 : decode prog_1_method_28_code 42 = .ok (.ireturn, 1) := by decide +kernel
theorem d_X10_spill_43 : decode prog_1_method_28_code 43 = .ok (.iload_n 3, 1) := by decide +kernel
theorem d_X10_spill_44 : decode prog_1_method_28_code 44 = .ok (.ifCond .lt 12, 3) := by decide +kernel
theorem d_X10_spill_47 : decode prog_1_method_28_code 47 = .ok (.iload_n 3, 1) := by decide +kernel
theorem d_X10_spill_48 : decode prog_1_method_28_code 48 = .ok (.aload 4, 2) := by decide +kernel
theorem d_X10_spill_50 : decode prog_1_method_28_code 50 = .ok (.getfield 307, 3) := by decide +kernel
theorem d_X10_spill_53 : decode prog_1_method_28_code 53 = .ok (.if_icmp .le 6, 3) := by decide +kernel
theorem d_X10_spill_56 : decode prog_1_method_28_code 56 = .ok (.bipush (-12), 2) := by decide +kernel
theorem d_X10_spill_58 : decode prog_1_method_28_code 58 = .ok (.ireturn, 1) := by decide +kernel
theorem d_X10_spill_59 : decode prog_1_method_28_code 59 = .ok (.bipush 9, 2) := by decide +kernel
theorem d_X10_spill_61 : decode prog_1_method_28_code 61 = .ok (.aload 4, 2) := by decide +kernel
theorem d_X10_spill_63 : decode prog_1_method_28_code 63 = .ok (.getfield 307, 3) := by decide +kernel
theorem d_X10_spill_66 : decode prog_1_method_28_code 66 = .ok (.iload_n 3, 1) := by decide +kernel
theorem d_X10_spill_67 : decode prog_1_method_28_code 67 = .ok (.isub, 1) := by decide +kernel
theorem d_X10_spill_68 : decode prog_1_method_28_code 68 = .ok (.invokestatic 310, 3) := by decide +kernel
theorem d_X10_spill_71 : decode prog_1_method_28_code 71 = .ok (.istore 6, 2) := by decide +kernel
theorem d_X10_spill_73 : decode prog_1_method_28_code 73 = .ok (.iconst 0, 1) := by decide +kernel
theorem d_X10_spill_74 : decode prog_1_method_28_code 74 = .ok (.istore 7, 2) := by decide +kernel
theorem d_X10_spill_76 : decode prog_1_method_28_code 76 = .ok (.iload 7, 2) := by decide +kernel
theorem d_X10_spill_78 : decode prog_1_method_28_code 78 = .ok (.iload 6, 2) := by decide +kernel
theorem d_X10_spill_80 : decode prog_1_method_28_code 80 = .ok (.if_icmp .ge 26, 3) := by decide +kernel
theorem d_X10_spill_83 : decode prog_1_method_28_code 83 = .ok (.aload 4, 2) := by decide +kernel
theorem d_X10_spill_85 : decode prog_1_method_28_code 85 = .ok (.iload_n 3, 1) := by decide +kernel
theorem d_X10_spill_86 : decode prog_1_method_28_code 86 = .ok (.iload 7, 2) := by decide +kernel
theorem d_X10_spill_88 : decode prog_1_method_28_code 88 = .ok (.iadd, 1) := by decide +kernel
theorem d_X10_spill_89 : decode prog_1_method_28_code 89 = .ok (.aload 5, 2) := by decide +kernel
theorem d_X10_spill_91 : decode prog_1_method_28_code 91 = .ok (.getfield 217, 3) := by decide +kernel
theorem d_X10_spill_94 : decode prog_1_method_28_code 94 = .ok (.iload 7, 2) := by decide +kernel
theorem d_X10_spill_96 : decode prog_1_method_28_code 96 = .ok (.iaload, 1) := by decide +kernel
theorem d_X10_spill_97 : decode prog_1_method_28_code 97 = .ok (.invokevirtual 316, 3) := by decide +kernel
theorem d_X10_spill_100 : decode prog_1_method_28_code 100 = .ok (.iinc 7 1, 3) := by decide +kernel
theorem d_X10_spill_103 : decode prog_1_method_28_code 103 = .ok (.goto (-27), 3) := by decide +kernel
theorem d_X10_spill_106 : decode prog_1_method_28_code 106 = .ok (.iload 6, 2) := by decide +kernel
theorem d_X10_spill_108 : decode prog_1_method_28_code 108 = .ok (.ireturn, 1) := by decide +kernel
def f_X10_spill_76B (x3 : Int) (x4 : Int) (x5 : Int) (x6 : Int) (rec_76 : Int → tp_M → Option (Int × tp_M)) (x7 : Int) (M0 : tp_M) : Option (Int × tp_M) :=
  if x6 ≤ x7 then
    some (x6, M0)
  else
    if tp_tg x5 = 2 then
      if 0 ≤ x7 ∧ x7 < 9 then
        (f_X6_put x4 (tp_w (x3 + x7)) (M0 (x5 + 2) x7) M0).bind fun r16 =>
        tp_lt (tp_w (x7 + 1)) fun y18 =>
        rec_76 y18 r16 else none else none
set_option maxHeartbeats 4000000 in
set_option maxRecDepth 100000 in
theorem T_X10_spill_76B (G : tp_G) (x3 : Int) (x4 : Int) (x5 : Int) (x6 : Int) (hg_x4 : tp_tg x4 = 6) (rec_76 : Int → tp_M → Option (Int × tp_M)) (hrec_76 : ∀ (x7' : Int) (M' : tp_M), tp_J i_X10_spill (tp_rm 2) G 0 0 o_X10_spill tp_NC (tp_st M') 0 0 [none, none, none, some (.inl x3), some (.inr (.inr x4)), some (.inr (.inr x5)), some (.inl x6), some (.inl (x7'))] 76 [] (rec_76 x7' M')) (x7 : Int) (M0 : tp_M) : tp_J i_X10_spill (tp_rm 2) G 0 0 o_X10_spill tp_NC (tp_st M0) 0 0 [none, none, none, some (.inl x3), some (.inr (.inr x4)), some (.inr (.inr x5)), some (.inl x6), some (.inl x7)] 76 [] (f_X10_spill_76B x3 x4 x5 x6 rec_76 x7 M0) := by
  unfold f_X10_spill_76B
  refine j_iload d_X10_spill_76 rfl ?_
  refine j_iload d_X10_spill_78 rfl ?_
  refine j_icmp_ge (tgt := 106) d_X10_spill_80 (by decide) (fun h14 => ?_) (fun h14 => ?_)
  · refine j_iload d_X10_spill_106 rfl ?_
    exact j_iret d_X10_spill_108 rfl rfl ⟨rfl, rfl⟩
  · refine j_aload d_X10_spill_83 rfl ?_
    refine j_iload_n rfl d_X10_spill_85 rfl ?_
    refine j_iload d_X10_spill_86 rfl ?_
    refine j_iadd d_X10_spill_88 ?_
    refine j_aload d_X10_spill_89 rfl ?_
    refine tp_chk (fun ht15 => ?_)
    refine j_getr fl_Main_217 ht15 (fam_2_9 _ ht15).1 d_X10_spill_91 ?_
    refine j_iload d_X10_spill_94 rfl ?_
    refine j_iald ((fam_2_9 _ ht15).2.1) ((fam_2_9 _ ht15).2.2) d_X10_spill_96 ?_
    refine j_bind (fun r16 h17 => ?_)
    refine j_callV (y := y_X6_put) (I' := i_X6_put) (avs := [.inl (tp_w (x3 + x7)), .inl (M0 (x5 + 2) x7)]) (c := x4) (st := []) (c_X6_put G x4 (tp_w (x3 + x7)) (M0 (x5 + 2) x7) M0 r16 h17) cs_Main_316 wd_975 wd_976 wd_977 hg_x4 rfl rfl rfl (Nat.le_of_ble_eq_true rfl) ⟨rfl, rfl⟩ ⟨by decide, by decide⟩ ⟨by decide, by decide⟩ d_X10_spill_97 ?_
    refine j_iincN (lv' := fun y18 => [none, none, none, some (.inl x3), some (.inr (.inr x4)), some (.inr (.inr x5)), some (.inl x6), some (.inl y18)]) d_X10_spill_100 rfl (Nat.le_of_ble_eq_true rfl) (fun _ => rfl) (fun y18 hy18 => ?_)
    refine j_goto (tgt := 76) d_X10_spill_103 (by decide) ?_
    exact j_wk [false, false, false, true, true, true, true, true] rfl rfl (hrec_76 y18 r16)
def f_X10_spill_76 (x3 : Int) (x4 : Int) (x5 : Int) (x6 : Int) (x7 : Int) (M0 : tp_M) : Option (Int × tp_M) := tp_lp (σ := Int × tp_M) (fun rec_ u => f_X10_spill_76B x3 x4 x5 x6 (fun x7' M0' => rec_ (x7', M0')) u.1 u.2) tp_N (x7, M0)
set_option maxHeartbeats 4000000 in
set_option maxRecDepth 100000 in
theorem T_X10_spill_76 (G : tp_G) (x3 : Int) (x4 : Int) (x5 : Int) (x6 : Int) (x7 : Int) (M0 : tp_M) (hg_x4 : tp_tg x4 = 6) : tp_J i_X10_spill (tp_rm 2) G 0 0 o_X10_spill tp_NC (tp_st M0) 0 0 [none, none, none, some (.inl x3), some (.inr (.inr x4)), some (.inr (.inr x5)), some (.inl x6), some (.inl x7)] 76 [] (f_X10_spill_76 x3 x4 x5 x6 x7 M0) := by
  unfold f_X10_spill_76
  exact j_lp (σ := Int × tp_M) (n' := fun _ => tp_NC) (g' := fun u => tp_st u.2) (k' := fun _ => 0) (q' := fun _ => 0) (lv' := fun u => [none, none, none, some (.inl x3), some (.inr (.inr x4)), some (.inr (.inr x5)), some (.inl x6), some (.inl u.1)]) (fun rec_ hrec u => T_X10_spill_76B G x3 x4 x5 x6 hg_x4 (fun x7' M0' => rec_ (x7', M0')) (fun x7' M0' => hrec (x7', M0')) u.1 u.2) tp_N (x7, M0)
def f_X10_spill (a0 : Int) (a1 : Int) (a2 : Int) (M0 : tp_M) : Option (Int × tp_M) :=
  (f_X10_sheetAt a1 M0).bind fun r1 =>
  if r1 = -1 then
    some ((-1), M0)
  else
    (f_X9_knotAt a0 M0).bind fun r4 =>
    if r4 = -1 then
      some ((-2), M0)
    else
      if tp_tg r1 = 6 then
        (f_X6_isMissing r1 M0).bind fun r8 =>
        if r8 = 0 then
          if a2 < 0 then
            some ((-12), M0)
          else
            if a2 ≤ (M0 r1 1) then
              tp_lt ((min 9 (tp_w ((M0 r1 1) - a2)))) fun y13 =>
              f_X10_spill_76 a2 r1 r4 y13 0 M0
            else
              some ((-12), M0)
        else
          some ((-11), M0) else none
set_option maxHeartbeats 4000000 in
set_option maxRecDepth 100000 in
theorem T_X10_spill (G : tp_G) (a0 : Int) (a1 : Int) (a2 : Int) (M0 : tp_M) : tp_J i_X10_spill (tp_rm 2) G 0 0 o_X10_spill tp_NC (tp_st M0) 0 0 [some (.inr (.inr 0)), some (.inl a0), some (.inl a1), some (.inl a2), none, none, none, none] 0 [] (f_X10_spill a0 a1 a2 M0) := by
  unfold f_X10_spill
  refine j_aload_n rfl d_X10_spill_0 rfl ?_
  refine j_iload_n rfl d_X10_spill_1 rfl ?_
  refine j_bind (fun r1 h2 => ?_)
  refine j_callV (y := y_X10_sheetAt) (I' := i_X10_sheetAt) (avs := [.inl a1]) (c := 0) (st := []) (c_X10_sheetAt G a1 M0 r1 h2) cs_Main_280 wd_939 wd_941 ws_33 tg_0 rfl rfl rfl (Nat.le_of_ble_eq_true rfl) ⟨rfl, rfl⟩ ⟨by decide, by decide⟩ ⟨by decide, by decide⟩ d_X10_spill_2 ?_
  refine j_astore (lv' := [some (.inr (.inr 0)), some (.inl a0), some (.inl a1), some (.inl a2), some (.inr (.inr r1)), none, none, none]) d_X10_spill_5 (Nat.le_of_ble_eq_true rfl) rfl ?_
  refine j_aload d_X10_spill_7 rfl ?_
  refine j_ifnonnull (tgt := 14) d_X10_spill_9 (by decide) (fun h3 => ?_) (fun h3 => ?_)
  · refine j_iconst ⟨by decide, by decide⟩ d_X10_spill_12 ?_
    exact j_iret d_X10_spill_13 rfl rfl ⟨rfl, rfl⟩
  · refine j_aload_n rfl d_X10_spill_14 rfl ?_
    refine j_getr fl_Main_51 tg_0 rv_0_7 d_X10_spill_15 ?_
    refine j_iload_n rfl d_X10_spill_18 rfl ?_
    refine j_bind (fun r4 h5 => ?_)
    refine j_callV (y := y_X9_knotAt) (I' := i_X9_knotAt) (avs := [.inl a0]) (c := 41) (st := []) (c_X9_knotAt G a0 M0 r4 h5) cs_Main_189 wd_835 wd_665 wd_666 tg_41 rfl rfl rfl (Nat.le_of_ble_eq_true rfl) ⟨rfl, rfl⟩ ⟨by decide, by decide⟩ ⟨by decide, by decide⟩ d_X10_spill_19 ?_
    refine j_astore (lv' := [some (.inr (.inr 0)), some (.inl a0), some (.inl a1), some (.inl a2), some (.inr (.inr r1)), some (.inr (.inr r4)), none, none]) d_X10_spill_22 (Nat.le_of_ble_eq_true rfl) rfl ?_
    refine j_aload d_X10_spill_24 rfl ?_
    refine j_ifnonnull (tgt := 32) d_X10_spill_26 (by decide) (fun h6 => ?_) (fun h6 => ?_)
    · refine j_bipush ⟨by decide, by decide⟩ (by decide +kernel) d_X10_spill_29 ?_
      exact j_iret d_X10_spill_31 rfl rfl ⟨rfl, rfl⟩
    · refine j_aload d_X10_spill_32 rfl ?_
      refine tp_chk (fun ht7 => ?_)
      refine j_bind (fun r8 h9 => ?_)
      refine j_callV (y := y_X6_isMissing) (I' := i_X6_isMissing) (avs := []) (c := r1) (st := []) (c_X6_isMissing G r1 M0 r8 h9) cs_Main_284 wd_943 wd_944 wd_945 ht7 rfl rfl rfl (Nat.le_of_ble_eq_true rfl) ⟨rfl, rfl⟩ ⟨by decide, by decide⟩ ⟨by decide, by decide⟩ d_X10_spill_34 ?_
      refine j_if_eq (tgt := 43) d_X10_spill_37 (by decide) (fun h10 => ?_) (fun h10 => ?_)
      · refine j_iload_n rfl d_X10_spill_43 rfl ?_
        refine j_if_lt (tgt := 56) d_X10_spill_44 (by decide) (fun h11 => ?_) (fun h11 => ?_)
        · refine j_bipush ⟨by decide, by decide⟩ (by decide +kernel) d_X10_spill_56 ?_
          exact j_iret d_X10_spill_58 rfl rfl ⟨rfl, rfl⟩
        · refine j_iload_n rfl d_X10_spill_47 rfl ?_
          refine j_aload d_X10_spill_48 rfl ?_
          refine j_geti fl_Main_307 ht7 d_X10_spill_50 ?_
          refine j_icmp_le (tgt := 59) d_X10_spill_53 (by decide) (fun h12 => ?_) (fun h12 => ?_)
          · refine j_bipush ⟨by decide, by decide⟩ (by decide +kernel) d_X10_spill_59 ?_
            refine j_aload d_X10_spill_61 rfl ?_
            refine j_geti fl_Main_307 ht7 d_X10_spill_63 ?_
            refine j_iload_n rfl d_X10_spill_66 rfl ?_
            refine j_isub d_X10_spill_67 ?_
            refine j_mmin wd_974 wd_482 wd_13 wd_483 ⟨(by decide : 1 ≤ ((tp_rm 2) : Room).frames), (by decide : 40 ≤ ((tp_rm 2) : Room).locals)⟩ ⟨by decide, by decide⟩ (Nat.le_of_ble_eq_true rfl) d_X10_spill_68 ?_
            refine j_nmI (fun y13 hy13 => ?_)
            refine j_istore (lv' := [some (.inr (.inr 0)), some (.inl a0), some (.inl a1), some (.inl a2), some (.inr (.inr r1)), some (.inr (.inr r4)), some (.inl y13), none]) d_X10_spill_71 (Nat.le_of_ble_eq_true rfl) rfl ?_
            refine j_iconst ⟨by decide, by decide⟩ d_X10_spill_73 ?_
            refine j_istore (lv' := [some (.inr (.inr 0)), some (.inl a0), some (.inl a1), some (.inl a2), some (.inr (.inr r1)), some (.inr (.inr r4)), some (.inl y13), some (.inl 0)]) d_X10_spill_74 (Nat.le_of_ble_eq_true rfl) rfl ?_
            exact j_wk [false, false, false, true, true, true, true, true] rfl rfl (T_X10_spill_76 G a2 r1 r4 y13 0 M0 ht7)
          · refine j_bipush ⟨by decide, by decide⟩ (by decide +kernel) d_X10_spill_56 ?_
            exact j_iret d_X10_spill_58 rfl rfl ⟨rfl, rfl⟩
      · refine j_bipush ⟨by decide, by decide⟩ (by decide +kernel) d_X10_spill_40 ?_
        exact j_iret d_X10_spill_42 rfl rfl ⟨rfl, rfl⟩
set_option maxHeartbeats 4000000 in
set_option maxRecDepth 100000 in
theorem c_X10_spill (G : tp_G) (a0 : Int) (a1 : Int) (a2 : Int) (M0 : tp_M) (r : Int × tp_M) (h : f_X10_spill a0 a1 a2 M0 = some r) (l : Launch) : Met l y_X10_spill (tp_ws y_X10_spill i_X10_spill) (tp_rm 2) (tp_Pc G [.inr (.inr 0), .inl a0, .inl a1, .inl a2] tp_NC (tp_st M0)) (tp_Q G (o_X10_spill r)) 0 0 (tp_A G) :=
  tp_met (I := i_X10_spill) (y := y_X10_spill) (by decide +kernel) (Eq.refl "TypesAtPrime") (Eq.refl "spill") (lv := [some (.inr (.inr 0)), some (.inl a0), some (.inl a1), some (.inl a2), none, none, none, none]) rfl (Nat.le_of_ble_eq_true rfl) (T_X10_spill G a0 a1 a2 M0) h l
theorem wd_987 : (.code ⟨"TypesAtPrime$Sheet", "become", "(II)V"⟩ prog_8_method_3_code 3 (none : Option Jvm.ClassFile.FieldType) : Cond) ∈ lw_tbl := List.mem_append_right _ (List.mem_of_getElem? (i := 987) (by decide +kernel))
theorem cs_Main_320 : tp_CS "TypesAtPrime" 320 y_X6_become i_X6_become 2 := ⟨wd_987, wd_3, by decide, by decide, by decide +kernel⟩
theorem wd_984 : (.methodLink "TypesAtPrime" 320 ⟨"TypesAtPrime$Sheet", "become", "(II)V"⟩ : Cond) ∈ lw_tbl := List.mem_append_right _ (List.mem_of_getElem? (i := 984) (by decide +kernel))
theorem wd_985 : (.instanceMethod ⟨"TypesAtPrime$Sheet", "become", "(II)V"⟩ : Cond) ∈ lw_tbl := List.mem_append_right _ (List.mem_of_getElem? (i := 985) (by decide +kernel))
theorem wd_986 : (.selects "TypesAtPrime$Sheet" ⟨"TypesAtPrime$Sheet", "become", "(II)V"⟩ ⟨"TypesAtPrime$Sheet", "become", "(II)V"⟩ : Cond) ∈ lw_tbl := List.mem_append_right _ (List.mem_of_getElem? (i := 986) (by decide +kernel))
def y_X10_sheet : MethodName := ⟨"TypesAtPrime", "sheet", "(III)I"⟩
abbrev i_X10_sheet : tp_I := (prog_1_method_29_code, "TypesAtPrime", (some .int), 5, "sheet")
abbrev o_X10_sheet : Int × tp_M → tp_O := fun r => (some (.inl r.1), tp_NC, tp_st r.2)
theorem d_X10_sheet_0 : decode prog_1_method_29_code 0 = .ok (.aload_n 0, 1) := by decide +kernel
theorem d_X10_sheet_1 : decode prog_1_method_29_code 1 = .ok (.iload_n 1, 1) := by decide +kernel
theorem d_X10_sheet_2 : decode prog_1_method_29_code 2 = .ok (.invokevirtual 280, 3) := by decide +kernel
theorem d_X10_sheet_5 : decode prog_1_method_29_code 5 = .ok (.astore 4, 2) := by decide +kernel
theorem d_X10_sheet_7 : decode prog_1_method_29_code 7 = .ok (.aload 4, 2) := by decide +kernel
theorem d_X10_sheet_9 : decode prog_1_method_29_code 9 = .ok (.ifnull 13, 3) := by decide +kernel
theorem d_X10_sheet_12 : decode prog_1_method_29_code 12 = .ok (.iload_n 2, 1) := by decide +kernel
theorem d_X10_sheet_13 : decode prog_1_method_29_code 13 = .ok (.iconst (-1), 1) := by decide +kernel
theorem d_X10_sheet_14 : decode prog_1_method_29_code 14 = .ok (.if_icmp .lt 8, 3) := by decide +kernel
theorem d_X10_sheet_17 : decode prog_1_method_29_code 17 = .ok (.iload_n 2, 1) := by decide +kernel
theorem d_X10_sheet_18 : decode prog_1_method_29_code 18 = .ok (.iconst 1, 1) := by decide +kernel
theorem d_X10_sheet_19 : decode prog_1_method_29_code 19 = .ok (.if_icmp .le 5, 3) := by decide +kernel
theorem d_X10_sheet_22 : decode prog_1_method_29_code 22 = .ok (.iconst (-1), 1) := by decide +kernel
theorem d_X10_sheet_23 : decode prog_1_method_29_code 23 = .ok (.ireturn, 1) := by decide +kernel
theorem d_X10_sheet_24 : decode prog_1_method_29_code 24 = .ok (.iload_n 2, 1) := by decide +kernel
theorem d_X10_sheet_25 : decode prog_1_method_29_code 25 = .ok (.ifCond .lt 11, 3) := by decide +kernel
theorem d_X10_sheet_28 : decode prog_1_method_29_code 28 = .ok (.iload_n 3, 1) := by decide +kernel
theorem d_X10_sheet_29 : decode prog_1_method_29_code 29 = .ok (.bipush 40, 2) := by decide +kernel
theorem d_X10_sheet_31 : decode prog_1_method_29_code 31 = .ok (.if_icmp .le 5, 3) := by decide +kernel
theorem d_X10_sheet_34 : decode prog_1_method_29_code 34 = .ok (.iconst (-1), 1) := by decide +kernel
theorem d_X10_sheet_35 : decode prog_1_method_29_code 35 = .ok (.ireturn, 1) := by decide +kernel
theorem d_X10_sheet_36 : decode prog_1_method_29_code 36 = .ok (.iload_n 2, 1) := by decide +kernel
theorem d_X10_sheet_37 : decode prog_1_method_29_code 37 = .ok (.ifCond .lt 10, 3) := by decide +kernel
theorem d_X10_sheet_40 : decode prog_1_method_29_code 40 = .ok (.iload_n 3, 1) := by decide +kernel
theorem d_X10_sheet_41 : decode prog_1_method_29_code 41 = .ok (.ifCond .ge 6, 3) := by decide +kernel
theorem d_X10_sheet_44 : decode prog_1_method_29_code 44 = .ok (.bipush (-14), 2) := by decide +kernel
theorem d_X10_sheet_46 : decode prog_1_method_29_code 46 = .ok (.ireturn, 1) := by decide +kernel
theorem d_X10_sheet_47 : decode prog_1_method_29_code 47 = .ok (.aload 4, 2) := by decide +kernel
theorem d_X10_sheet_49 : decode prog_1_method_29_code 49 = .ok (.iload_n 2, 1) := by decide +kernel
theorem d_X10_sheet_50 : decode prog_1_method_29_code 50 = .ok (.iload_n 3, 1) := by decide +kernel
theorem d_X10_sheet_51 : decode prog_1_method_29_code 51 = .ok (.invokevirtual 320, 3) := by decide +kernel
theorem d_X10_sheet_54 : decode prog_1_method_29_code 54 = .ok (.iconst 1, 1) := by decide +kernel
theorem d_X10_sheet_55 : decode prog_1_method_29_code 55 = .ok (.ireturn, 1) := by decide +kernel
def f_X10_sheet_47 (x2 : Int) (x3 : Int) (x4 : Int) (M0 : tp_M) : Option (Int × tp_M) :=
  if tp_tg x4 = 6 then
    (f_X6_become x4 x2 x3 M0).bind fun r9 =>
    some (1, r9) else none
set_option maxHeartbeats 4000000 in
set_option maxRecDepth 100000 in
theorem T_X10_sheet_47 (G : tp_G) (x2 : Int) (x3 : Int) (x4 : Int) (M0 : tp_M) : tp_J i_X10_sheet (tp_rm 2) G 0 0 o_X10_sheet tp_NC (tp_st M0) 0 0 [none, none, some (.inl x2), some (.inl x3), some (.inr (.inr x4))] 47 [] (f_X10_sheet_47 x2 x3 x4 M0) := by
  unfold f_X10_sheet_47
  refine j_aload d_X10_sheet_47 rfl ?_
  refine j_iload_n rfl d_X10_sheet_49 rfl ?_
  refine j_iload_n rfl d_X10_sheet_50 rfl ?_
  refine tp_chk (fun ht8 => ?_)
  refine j_bind (fun r9 h10 => ?_)
  refine j_callV (y := y_X6_become) (I' := i_X6_become) (avs := [.inl x2, .inl x3]) (c := x4) (st := []) (c_X6_become G x4 x2 x3 M0 r9 h10) cs_Main_320 wd_984 wd_985 wd_986 ht8 rfl rfl rfl (Nat.le_of_ble_eq_true rfl) ⟨rfl, rfl⟩ ⟨by decide, by decide⟩ ⟨by decide, by decide⟩ d_X10_sheet_51 ?_
  refine j_iconst ⟨by decide, by decide⟩ d_X10_sheet_54 ?_
  exact j_iret d_X10_sheet_55 rfl rfl ⟨rfl, rfl⟩
def f_X10_sheet_36 (x2 : Int) (x3 : Int) (x4 : Int) (M0 : tp_M) : Option (Int × tp_M) :=
  if x2 < 0 then
    f_X10_sheet_47 x2 x3 x4 M0
  else
    if 0 ≤ x3 then
      f_X10_sheet_47 x2 x3 x4 M0
    else
      some ((-14), M0)
set_option maxHeartbeats 4000000 in
set_option maxRecDepth 100000 in
theorem T_X10_sheet_36 (G : tp_G) (x2 : Int) (x3 : Int) (x4 : Int) (M0 : tp_M) : tp_J i_X10_sheet (tp_rm 2) G 0 0 o_X10_sheet tp_NC (tp_st M0) 0 0 [none, none, some (.inl x2), some (.inl x3), some (.inr (.inr x4))] 36 [] (f_X10_sheet_36 x2 x3 x4 M0) := by
  unfold f_X10_sheet_36
  refine j_iload_n rfl d_X10_sheet_36 rfl ?_
  refine j_if_lt (tgt := 47) d_X10_sheet_37 (by decide) (fun h7 => ?_) (fun h7 => ?_)
  · exact j_wk [false, false, true, true, true] rfl rfl (T_X10_sheet_47 G x2 x3 x4 M0)
  · refine j_iload_n rfl d_X10_sheet_40 rfl ?_
    refine j_if_ge (tgt := 47) d_X10_sheet_41 (by decide) (fun h11 => ?_) (fun h11 => ?_)
    · exact j_wk [false, false, true, true, true] rfl rfl (T_X10_sheet_47 G x2 x3 x4 M0)
    · refine j_bipush ⟨by decide, by decide⟩ (by decide +kernel) d_X10_sheet_44 ?_
      exact j_iret d_X10_sheet_46 rfl rfl ⟨rfl, rfl⟩
def f_X10_sheet (a0 : Int) (a1 : Int) (a2 : Int) (M0 : tp_M) : Option (Int × tp_M) :=
  (f_X10_sheetAt a0 M0).bind fun r1 =>
  if r1 = -1 then
    some ((-1), M0)
  else
    if a1 < (-1) then
      some ((-1), M0)
    else
      if a1 ≤ 1 then
        if a1 < 0 then
          f_X10_sheet_36 a1 a2 r1 M0
        else
          if a2 ≤ 40 then
            f_X10_sheet_36 a1 a2 r1 M0
          else
            some ((-1), M0)
      else
        some ((-1), M0)
set_option maxHeartbeats 4000000 in
set_option maxRecDepth 100000 in
theorem T_X10_sheet (G : tp_G) (a0 : Int) (a1 : Int) (a2 : Int) (M0 : tp_M) : tp_J i_X10_sheet (tp_rm 2) G 0 0 o_X10_sheet tp_NC (tp_st M0) 0 0 [some (.inr (.inr 0)), some (.inl a0), some (.inl a1), some (.inl a2), none] 0 [] (f_X10_sheet a0 a1 a2 M0) := by
  unfold f_X10_sheet
  refine j_aload_n rfl d_X10_sheet_0 rfl ?_
  refine j_iload_n rfl d_X10_sheet_1 rfl ?_
  refine j_bind (fun r1 h2 => ?_)
  refine j_callV (y := y_X10_sheetAt) (I' := i_X10_sheetAt) (avs := [.inl a0]) (c := 0) (st := []) (c_X10_sheetAt G a0 M0 r1 h2) cs_Main_280 wd_939 wd_941 ws_33 tg_0 rfl rfl rfl (Nat.le_of_ble_eq_true rfl) ⟨rfl, rfl⟩ ⟨by decide, by decide⟩ ⟨by decide, by decide⟩ d_X10_sheet_2 ?_
  refine j_astore (lv' := [some (.inr (.inr 0)), some (.inl a0), some (.inl a1), some (.inl a2), some (.inr (.inr r1))]) d_X10_sheet_5 (Nat.le_of_ble_eq_true rfl) rfl ?_
  refine j_aload d_X10_sheet_7 rfl ?_
  refine j_ifnull (tgt := 22) d_X10_sheet_9 (by decide) (fun h3 => ?_) (fun h3 => ?_)
  · refine j_iconst ⟨by decide, by decide⟩ d_X10_sheet_22 ?_
    exact j_iret d_X10_sheet_23 rfl rfl ⟨rfl, rfl⟩
  · refine j_iload_n rfl d_X10_sheet_12 rfl ?_
    refine j_iconst ⟨by decide, by decide⟩ d_X10_sheet_13 ?_
    refine j_icmp_lt (tgt := 22) d_X10_sheet_14 (by decide) (fun h4 => ?_) (fun h4 => ?_)
    · refine j_iconst ⟨by decide, by decide⟩ d_X10_sheet_22 ?_
      exact j_iret d_X10_sheet_23 rfl rfl ⟨rfl, rfl⟩
    · refine j_iload_n rfl d_X10_sheet_17 rfl ?_
      refine j_iconst ⟨by decide, by decide⟩ d_X10_sheet_18 ?_
      refine j_icmp_le (tgt := 24) d_X10_sheet_19 (by decide) (fun h5 => ?_) (fun h5 => ?_)
      · refine j_iload_n rfl d_X10_sheet_24 rfl ?_
        refine j_if_lt (tgt := 36) d_X10_sheet_25 (by decide) (fun h6 => ?_) (fun h6 => ?_)
        · exact j_wk [false, false, true, true, true] rfl rfl (T_X10_sheet_36 G a1 a2 r1 M0)
        · refine j_iload_n rfl d_X10_sheet_28 rfl ?_
          refine j_bipush ⟨by decide, by decide⟩ (by decide +kernel) d_X10_sheet_29 ?_
          refine j_icmp_le (tgt := 36) d_X10_sheet_31 (by decide) (fun h12 => ?_) (fun h12 => ?_)
          · exact j_wk [false, false, true, true, true] rfl rfl (T_X10_sheet_36 G a1 a2 r1 M0)
          · refine j_iconst ⟨by decide, by decide⟩ d_X10_sheet_34 ?_
            exact j_iret d_X10_sheet_35 rfl rfl ⟨rfl, rfl⟩
      · refine j_iconst ⟨by decide, by decide⟩ d_X10_sheet_22 ?_
        exact j_iret d_X10_sheet_23 rfl rfl ⟨rfl, rfl⟩
set_option maxHeartbeats 4000000 in
set_option maxRecDepth 100000 in
theorem c_X10_sheet (G : tp_G) (a0 : Int) (a1 : Int) (a2 : Int) (M0 : tp_M) (r : Int × tp_M) (h : f_X10_sheet a0 a1 a2 M0 = some r) (l : Launch) : Met l y_X10_sheet (tp_ws y_X10_sheet i_X10_sheet) (tp_rm 2) (tp_Pc G [.inr (.inr 0), .inl a0, .inl a1, .inl a2] tp_NC (tp_st M0)) (tp_Q G (o_X10_sheet r)) 0 0 (tp_A G) :=
  tp_met (I := i_X10_sheet) (y := y_X10_sheet) (by decide +kernel) (Eq.refl "TypesAtPrime") (Eq.refl "sheet") (lv := [some (.inr (.inr 0)), some (.inl a0), some (.inl a1), some (.inl a2), none]) rfl (Nat.le_of_ble_eq_true rfl) (T_X10_sheet G a0 a1 a2 M0) h l
def y_X10_cell : MethodName := ⟨"TypesAtPrime", "cell", "(III)I"⟩
abbrev i_X10_cell : tp_I := (prog_1_method_30_code, "TypesAtPrime", (some .int), 5, "cell")
abbrev o_X10_cell : Int × tp_M → tp_O := fun r => (some (.inl r.1), tp_NC, tp_st r.2)
theorem d_X10_cell_0 : decode prog_1_method_30_code 0 = .ok (.aload_n 0, 1) := by decide +kernel
theorem d_X10_cell_1 : decode prog_1_method_30_code 1 = .ok (.iload_n 1, 1) := by decide +kernel
theorem d_X10_cell_2 : decode prog_1_method_30_code 2 = .ok (.invokevirtual 280, 3) := by decide +kernel
theorem d_X10_cell_5 : decode prog_1_method_30_code 5 = .ok (.astore 4, 2) := by decide +kernel
theorem d_X10_cell_7 : decode prog_1_method_30_code 7 = .ok (.aload 4, 2) := by decide +kernel
theorem d_X10_cell_9 : decode prog_1_method_30_code 9 = .ok (.ifnonnull 5, 3) := by decide +kernel
theorem d_X10_cell_12 : decode prog_1_method_30_code 12 = .ok (.iconst (-1), 1) := by decide +kernel
theorem d_X10_cell_13 : decode prog_1_method_30_code 13 = .ok (.ireturn, 1) := by decide +kernel
theorem d_X10_cell_14 : decode prog_1_method_30_code 14 = .ok (.aload 4, 2) := by decide +kernel
theorem d_X10_cell_16 : decode prog_1_method_30_code 16 = .ok (.invokevirtual 284, 3) := by decide +kernel
theorem d_X10_cell_19 : decode prog_1_method_30_code 19 = .ok (.ifCond .eq 6, 3) := by decide +kernel
theorem d_X10_cell_22 : decode prog_1_method_30_code 22 = .ok (.bipush (-11), 2) := by decide +kernel
theorem d_X10_cell_24 : decode prog_1_method_30_code 24 = .ok (.ireturn, 1) := by decide +kernel
theorem d_X10_cell_25 : decode prog_1_method_30_code 25 = .ok (.aload 4, 2) := by decide +kernel
theorem d_X10_cell_27 : decode prog_1_method_30_code 27 = .ok (.iload_n 2, 1) := by decide +kernel
theorem d_X10_cell_28 : decode prog_1_method_30_code 28 = .ok (.invokevirtual 304, 3) := by decide +kernel
theorem d_X10_cell_31 : decode prog_1_method_30_code 31 = .ok (.ifCond .ne 6, 3) := by decide +kernel
theorem d_X10_cell_34 : decode prog_1_method_30_code 34 = .ok (.bipush (-12), 2) := by decide +kernel
theorem d_X10_cell_36 : decode prog_1_method_30_code 36 = .ok (.ireturn, 1) := by decide +kernel
theorem d_X10_cell_37 : decode prog_1_method_30_code 37 = .ok (.aload 4, 2) := by decide +kernel
theorem d_X10_cell_39 : decode prog_1_method_30_code 39 = .ok (.iload_n 2, 1) := by decide +kernel
theorem d_X10_cell_40 : decode prog_1_method_30_code 40 = .ok (.iload_n 3, 1) := by decide +kernel
theorem d_X10_cell_41 : decode prog_1_method_30_code 41 = .ok (.invokevirtual 316, 3) := by decide +kernel
theorem d_X10_cell_44 : decode prog_1_method_30_code 44 = .ok (.iconst 1, 1) := by decide +kernel
theorem d_X10_cell_45 : decode prog_1_method_30_code 45 = .ok (.ireturn, 1) := by decide +kernel
def f_X10_cell (a0 : Int) (a1 : Int) (a2 : Int) (M0 : tp_M) : Option (Int × tp_M) :=
  (f_X10_sheetAt a0 M0).bind fun r1 =>
  if r1 = -1 then
    some ((-1), M0)
  else
    if tp_tg r1 = 6 then
      (f_X6_isMissing r1 M0).bind fun r5 =>
      if r5 = 0 then
        (f_X6_has r1 a1 M0).bind fun r8 =>
        if ¬ r8 = 0 then
          (f_X6_put r1 a1 a2 M0).bind fun r11 =>
          some (1, r11)
        else
          some ((-12), M0)
      else
        some ((-11), M0) else none
set_option maxHeartbeats 4000000 in
set_option maxRecDepth 100000 in
theorem T_X10_cell (G : tp_G) (a0 : Int) (a1 : Int) (a2 : Int) (M0 : tp_M) : tp_J i_X10_cell (tp_rm 2) G 0 0 o_X10_cell tp_NC (tp_st M0) 0 0 [some (.inr (.inr 0)), some (.inl a0), some (.inl a1), some (.inl a2), none] 0 [] (f_X10_cell a0 a1 a2 M0) := by
  unfold f_X10_cell
  refine j_aload_n rfl d_X10_cell_0 rfl ?_
  refine j_iload_n rfl d_X10_cell_1 rfl ?_
  refine j_bind (fun r1 h2 => ?_)
  refine j_callV (y := y_X10_sheetAt) (I' := i_X10_sheetAt) (avs := [.inl a0]) (c := 0) (st := []) (c_X10_sheetAt G a0 M0 r1 h2) cs_Main_280 wd_939 wd_941 ws_33 tg_0 rfl rfl rfl (Nat.le_of_ble_eq_true rfl) ⟨rfl, rfl⟩ ⟨by decide, by decide⟩ ⟨by decide, by decide⟩ d_X10_cell_2 ?_
  refine j_astore (lv' := [some (.inr (.inr 0)), some (.inl a0), some (.inl a1), some (.inl a2), some (.inr (.inr r1))]) d_X10_cell_5 (Nat.le_of_ble_eq_true rfl) rfl ?_
  refine j_aload d_X10_cell_7 rfl ?_
  refine j_ifnonnull (tgt := 14) d_X10_cell_9 (by decide) (fun h3 => ?_) (fun h3 => ?_)
  · refine j_iconst ⟨by decide, by decide⟩ d_X10_cell_12 ?_
    exact j_iret d_X10_cell_13 rfl rfl ⟨rfl, rfl⟩
  · refine j_aload d_X10_cell_14 rfl ?_
    refine tp_chk (fun ht4 => ?_)
    refine j_bind (fun r5 h6 => ?_)
    refine j_callV (y := y_X6_isMissing) (I' := i_X6_isMissing) (avs := []) (c := r1) (st := []) (c_X6_isMissing G r1 M0 r5 h6) cs_Main_284 wd_943 wd_944 wd_945 ht4 rfl rfl rfl (Nat.le_of_ble_eq_true rfl) ⟨rfl, rfl⟩ ⟨by decide, by decide⟩ ⟨by decide, by decide⟩ d_X10_cell_16 ?_
    refine j_if_eq (tgt := 25) d_X10_cell_19 (by decide) (fun h7 => ?_) (fun h7 => ?_)
    · refine j_aload d_X10_cell_25 rfl ?_
      refine j_iload_n rfl d_X10_cell_27 rfl ?_
      refine j_bind (fun r8 h9 => ?_)
      refine j_callV (y := y_X6_has) (I' := i_X6_has) (avs := [.inl a1]) (c := r1) (st := []) (c_X6_has G r1 a1 M0 r8 h9) cs_Main_304 wd_965 wd_966 wd_967 ht4 rfl rfl rfl (Nat.le_of_ble_eq_true rfl) ⟨rfl, rfl⟩ ⟨by decide, by decide⟩ ⟨by decide, by decide⟩ d_X10_cell_28 ?_
      refine j_if_ne (tgt := 37) d_X10_cell_31 (by decide) (fun h10 => ?_) (fun h10 => ?_)
      · refine j_aload d_X10_cell_37 rfl ?_
        refine j_iload_n rfl d_X10_cell_39 rfl ?_
        refine j_iload_n rfl d_X10_cell_40 rfl ?_
        refine j_bind (fun r11 h12 => ?_)
        refine j_callV (y := y_X6_put) (I' := i_X6_put) (avs := [.inl a1, .inl a2]) (c := r1) (st := []) (c_X6_put G r1 a1 a2 M0 r11 h12) cs_Main_316 wd_975 wd_976 wd_977 ht4 rfl rfl rfl (Nat.le_of_ble_eq_true rfl) ⟨rfl, rfl⟩ ⟨by decide, by decide⟩ ⟨by decide, by decide⟩ d_X10_cell_41 ?_
        refine j_iconst ⟨by decide, by decide⟩ d_X10_cell_44 ?_
        exact j_iret d_X10_cell_45 rfl rfl ⟨rfl, rfl⟩
      · refine j_bipush ⟨by decide, by decide⟩ (by decide +kernel) d_X10_cell_34 ?_
        exact j_iret d_X10_cell_36 rfl rfl ⟨rfl, rfl⟩
    · refine j_bipush ⟨by decide, by decide⟩ (by decide +kernel) d_X10_cell_22 ?_
      exact j_iret d_X10_cell_24 rfl rfl ⟨rfl, rfl⟩
set_option maxHeartbeats 4000000 in
set_option maxRecDepth 100000 in
theorem c_X10_cell (G : tp_G) (a0 : Int) (a1 : Int) (a2 : Int) (M0 : tp_M) (r : Int × tp_M) (h : f_X10_cell a0 a1 a2 M0 = some r) (l : Launch) : Met l y_X10_cell (tp_ws y_X10_cell i_X10_cell) (tp_rm 2) (tp_Pc G [.inr (.inr 0), .inl a0, .inl a1, .inl a2] tp_NC (tp_st M0)) (tp_Q G (o_X10_cell r)) 0 0 (tp_A G) :=
  tp_met (I := i_X10_cell) (y := y_X10_cell) (by decide +kernel) (Eq.refl "TypesAtPrime") (Eq.refl "cell") (lv := [some (.inr (.inr 0)), some (.inl a0), some (.inl a1), some (.inl a2), none]) rfl (Nat.le_of_ble_eq_true rfl) (T_X10_cell G a0 a1 a2 M0) h l
def y_X10_item : MethodName := ⟨"TypesAtPrime", "item", "(II)J"⟩
abbrev i_X10_item : tp_I := (prog_1_method_31_code, "TypesAtPrime", (some .long), 4, "item")
abbrev o_X10_item (M : tp_M) : Int → tp_O := fun r => (some (.inr (.inl r)), tp_NC, tp_st M)
theorem d_X10_item_0 : decode prog_1_method_31_code 0 = .ok (.aload_n 0, 1) := by decide +kernel
theorem d_X10_item_1 : decode prog_1_method_31_code 1 = .ok (.iload_n 1, 1) := by decide +kernel
theorem d_X10_item_2 : decode prog_1_method_31_code 2 = .ok (.invokevirtual 280, 3) := by decide +kernel
theorem d_X10_item_5 : decode prog_1_method_31_code 5 = .ok (.astore_n 3, 1) := by decide +kernel
theorem d_X10_item_6 : decode prog_1_method_31_code 6 = .ok (.aload_n 3, 1) := by decide +kernel
theorem d_X10_item_7 : decode prog_1_method_31_code 7 = .ok (.ifnull 11, 3) := by decide +kernel
theorem d_X10_item_10 : decode prog_1_method_31_code 10 = .ok (.aload_n 3, 1) := by decide +kernel
theorem d_X10_item_11 : decode prog_1_method_31_code 11 = .ok (.iload_n 2, 1) := by decide +kernel
theorem d_X10_item_12 : decode prog_1_method_31_code 12 = .ok (.invokevirtual 304, 3) := by decide +kernel
theorem d_X10_item_15 : decode prog_1_method_31_code 15 = .ok (.ifCond .ne 7, 3) := by decide +kernel
theorem d_X10_item_18 : decode prog_1_method_31_code 18 = .ok (.ldc2_w 113, 3) := by decide +kernel
theorem d_X10_item_21 : decode prog_1_method_31_code 21 = .ok (.lreturn, 1) := by decide +kernel
theorem d_X10_item_22 : decode prog_1_method_31_code 22 = .ok (.aload_n 3, 1) := by decide +kernel
theorem d_X10_item_23 : decode prog_1_method_31_code 23 = .ok (.getfield 291, 3) := by decide +kernel
theorem d_X10_item_26 : decode prog_1_method_31_code 26 = .ok (.iload_n 2, 1) := by decide +kernel
theorem d_X10_item_27 : decode prog_1_method_31_code 27 = .ok (.iaload, 1) := by decide +kernel
theorem d_X10_item_28 : decode prog_1_method_31_code 28 = .ok (.i2l, 1) := by decide +kernel
theorem d_X10_item_29 : decode prog_1_method_31_code 29 = .ok (.lreturn, 1) := by decide +kernel
def f_X10_item (a0 : Int) (a1 : Int) (M0 : tp_M) : Option (Int) :=
  (f_X10_sheetAt a0 M0).bind fun r1 =>
  if r1 = -1 then
    some (-9223372036854775808)
  else
    if tp_tg r1 = 6 then
      (f_X6_has r1 a1 M0).bind fun r5 =>
      if ¬ r5 = 0 then
        if 0 ≤ a1 ∧ a1 < 40 then
          some (M0 (r1 + 1) a1) else none
      else
        some (-9223372036854775808) else none
set_option maxHeartbeats 4000000 in
set_option maxRecDepth 100000 in
theorem T_X10_item (G : tp_G) (a0 : Int) (a1 : Int) (M0 : tp_M) : tp_J i_X10_item (tp_rm 1) G 0 0 (o_X10_item M0) tp_NC (tp_st M0) 0 0 [some (.inr (.inr 0)), some (.inl a0), some (.inl a1), none] 0 [] (f_X10_item a0 a1 M0) := by
  unfold f_X10_item
  refine j_aload_n rfl d_X10_item_0 rfl ?_
  refine j_iload_n rfl d_X10_item_1 rfl ?_
  refine j_bind (fun r1 h2 => ?_)
  refine j_callV (y := y_X10_sheetAt) (I' := i_X10_sheetAt) (avs := [.inl a0]) (c := 0) (st := []) (c_X10_sheetAt G a0 M0 r1 h2) cs_Main_280 wd_939 wd_941 ws_33 tg_0 rfl rfl rfl (Nat.le_of_ble_eq_true rfl) ⟨rfl, rfl⟩ ⟨by decide, by decide⟩ ⟨by decide, by decide⟩ d_X10_item_2 ?_
  refine j_astore_n (lv' := [some (.inr (.inr 0)), some (.inl a0), some (.inl a1), some (.inr (.inr r1))]) rfl d_X10_item_5 (Nat.le_of_ble_eq_true rfl) rfl ?_
  refine j_aload_n rfl d_X10_item_6 rfl ?_
  refine j_ifnull (tgt := 18) d_X10_item_7 (by decide) (fun h3 => ?_) (fun h3 => ?_)
  · refine j_ldc2 (x := (-9223372036854775808)) ⟨by decide, by decide⟩ (show Cond.constantLong _ _ _ ∈ lw_tbl from wd_526) d_X10_item_18 ?_
    exact j_lret d_X10_item_21 rfl rfl ⟨rfl, rfl⟩
  · refine j_aload_n rfl d_X10_item_10 rfl ?_
    refine j_iload_n rfl d_X10_item_11 rfl ?_
    refine tp_chk (fun ht4 => ?_)
    refine j_bind (fun r5 h6 => ?_)
    refine j_callV (y := y_X6_has) (I' := i_X6_has) (avs := [.inl a1]) (c := r1) (st := []) (c_X6_has G r1 a1 M0 r5 h6) cs_Main_304 wd_965 wd_966 wd_967 ht4 rfl rfl rfl (Nat.le_of_ble_eq_true rfl) ⟨rfl, rfl⟩ ⟨by decide, by decide⟩ ⟨by decide, by decide⟩ d_X10_item_12 ?_
    refine j_if_ne (tgt := 22) d_X10_item_15 (by decide) (fun h7 => ?_) (fun h7 => ?_)
    · refine j_aload_n rfl d_X10_item_22 rfl ?_
      refine j_getr fl_Main_291 ht4 (fam_6_2 _ ht4).1 d_X10_item_23 ?_
      refine j_iload_n rfl d_X10_item_26 rfl ?_
      refine j_iald ((fam_6_2 _ ht4).2.1) ((fam_6_2 _ ht4).2.2) d_X10_item_27 ?_
      refine j_i2l d_X10_item_28 ?_
      exact j_lret d_X10_item_29 rfl rfl ⟨rfl, rfl⟩
    · refine j_ldc2 (x := (-9223372036854775808)) ⟨by decide, by decide⟩ (show Cond.constantLong _ _ _ ∈ lw_tbl from wd_526) d_X10_item_18 ?_
      exact j_lret d_X10_item_21 rfl rfl ⟨rfl, rfl⟩
set_option maxHeartbeats 4000000 in
set_option maxRecDepth 100000 in
theorem c_X10_item (G : tp_G) (a0 : Int) (a1 : Int) (M0 : tp_M) (r : Int) (h : f_X10_item a0 a1 M0 = some r) (l : Launch) : Met l y_X10_item (tp_ws y_X10_item i_X10_item) (tp_rm 1) (tp_Pc G [.inr (.inr 0), .inl a0, .inl a1] tp_NC (tp_st M0)) (tp_Q G ((o_X10_item M0) r)) 0 0 (tp_A G) :=
  tp_met (I := i_X10_item) (y := y_X10_item) (by decide +kernel) (Eq.refl "TypesAtPrime") (Eq.refl "item") (lv := [some (.inr (.inr 0)), some (.inl a0), some (.inl a1), none]) rfl (Nat.le_of_ble_eq_true rfl) (T_X10_item G a0 a1 M0) h l
theorem wd_58 : (.fieldLink "TypesAtPrime" 323 "TypesAtPrime$Sheet" "sort" "I" : Cond) ∈ lw_tbl := List.mem_append_right _ (List.mem_of_getElem? (i := 58) (by decide +kernel))
theorem fl_Main_323 : tp_F "TypesAtPrime" 323 6 0 0 := ⟨_, _, _, rfl, by decide, rfl, wd_58, rfl, by decide⟩
theorem wd_1004 : (.code ⟨"TypesAtPrime$Sheet", "hasRun", "(II)Z"⟩ prog_8_method_5_code 3 (some .boolean) : Cond) ∈ lw_tbl := List.mem_append_right _ (List.mem_of_getElem? (i := 1004) (by decide +kernel))
theorem cs_Main_326 : tp_CS "TypesAtPrime" 326 y_X6_hasRun i_X6_hasRun 2 := ⟨wd_1004, wd_3, by decide, by decide, by decide +kernel⟩
theorem wd_1001 : (.methodLink "TypesAtPrime" 326 ⟨"TypesAtPrime$Sheet", "hasRun", "(II)Z"⟩ : Cond) ∈ lw_tbl := List.mem_append_right _ (List.mem_of_getElem? (i := 1001) (by decide +kernel))
theorem wd_1002 : (.instanceMethod ⟨"TypesAtPrime$Sheet", "hasRun", "(II)Z"⟩ : Cond) ∈ lw_tbl := List.mem_append_right _ (List.mem_of_getElem? (i := 1002) (by decide +kernel))
theorem wd_1003 : (.selects "TypesAtPrime$Sheet" ⟨"TypesAtPrime$Sheet", "hasRun", "(II)Z"⟩ ⟨"TypesAtPrime$Sheet", "hasRun", "(II)Z"⟩ : Cond) ∈ lw_tbl := List.mem_append_right _ (List.mem_of_getElem? (i := 1003) (by decide +kernel))
theorem wd_1005 : (.methodLink "TypesAtPrime" 330 ⟨"java/lang/System", "arraycopy", "(Ljava/lang/Object;ILjava/lang/Object;II)V"⟩ : Cond) ∈ lw_tbl := List.mem_append_right _ (List.mem_of_getElem? (i := 1005) (by decide +kernel))
def y_X10_shift : MethodName := ⟨"TypesAtPrime", "shift", "(IIIII)I"⟩
abbrev i_X10_shift : tp_I := (prog_1_method_32_code, "TypesAtPrime", (some .int), 8, "shift")
abbrev o_X10_shift : Int × tp_M → tp_O := fun r => (some (.inl r.1), tp_NC, tp_st r.2)
theorem d_X10_shift_0 : decode prog_1_method_32_code 0 = .ok (.aload_n 0, 1) := by decide +kernel
theorem d_X10_shift_1 : decode prog_1_method_32_code 1 = .ok (.iload_n 1, 1) := by decide +kernel
theorem d_X10_shift_2 : decode prog_1_method_32_code 2 = .ok (.invokevirtual 280, 3) := by decide +kernel
theorem d_X10_shift_5 : decode prog_1_method_32_code 5 = .ok (.astore 6, 2) := by decide +kernel
theorem d_X10_shift_7 : decode prog_1_method_32_code 7 = .ok (.aload_n 0, 1) := by decide +kernel
theorem d_X10_shift_8 : decode prog_1_method_32_code 8 = .ok (.iload_n 3, 1) := by decide +kernel
theorem d_X10_shift_9 : decode prog_1_method_32_code 9 = .ok (.invokevirtual 280, 3) := by decide +kernel
theorem d_X10_shift_12 : decode prog_1_method_32_code 12 = .ok (.astore 7, 2) := by decide +kernel
theorem d_X10_shift_14 : decode prog_1_method_32_code 14 = .ok (.aload 6, 2) := by decide +kernel
theorem d_X10_shift_16 : decode prog_1_method_32_code 16 = .ok (.ifnull 8, 3) := by decide +kernel
theorem d_X10_shift_19 : decode prog_1_method_32_code 19 = .ok (.aload 7, 2) := by decide +kernel
theorem d_X10_shift_21 : decode prog_1_method_32_code 21 = .ok (.ifnonnull 5, 3) := by decide +kernel
theorem d_X10_shift_24 : decode prog_1_method_32_code 24 = .ok (.iconst (-1), 1) := by decide +kernel
theorem d_X10_shift_25 : decode prog_1_method_32_code 25 = .ok (.ireturn, 1) := by decide +kernel
theorem d_X10_shift_26 : decode prog_1_method_32_code 26 = .ok (.aload 6, 2) := by decide +kernel
theorem d_X10_shift_28 : decode prog_1_method_32_code 28 = .ok (.invokevirtual 284, 3) := by decide +kernel
theorem d_X10_shift_31 : decode prog_1_method_32_code 31 = .ok (.ifCond .ne 11, 3) := by decide +kernel
theorem d_X10_shift_34 : decode prog_1_method_32_code 34 = .ok (.aload 7, 2) := by decide +kernel
theorem d_X10_shift_36 : decode prog_1_method_32_code 36 = .ok (.invokevirtual 284, 3) := by decide +kernel
theorem d_X10_shift_39 : decode prog_1_method_32_code 39 = .ok (.ifCond .eq 6, 3) := by decide +kernel
theorem d_X10_shift_42 : decode prog_1_method_32_code 42 = .ok (.bipush (-11), 2) := by decide +kernel
theorem d_X10_shift_44 : decode prog_1_method_32_code 44 = .ok (.ireturn, 1) := by decide +kernel
theorem d_X10_shift_45 : decode prog_1_method_32_code 45 = .ok (.aload 6, 2) := by decide +kernel
theorem d_X10_shift_47 : decode prog_1_method_32_code 47 = .ok (.getfield 323, 3) := by decide +kernel
theorem d_X10_shift_50 : decode prog_1_method_32_code 50 = .ok (.aload 7, 2) := by decide +kernel
theorem d_X10_shift_52 : decode prog_1_method_32_code 52 = .ok (.getfield 323, 3) := by decide +kernel
theorem d_X10_shift_55 : decode prog_1_method_32_code 55 = .ok (.if_icmp .eq 6, 3) := by decide +kernel
theorem d_X10_shift_58 : decode prog_1_method_32_code 58 = .ok (.bipush (-13), 2) := by decide +kernel
theorem d_X10_shift_60 : decode prog_1_method_32_code 60 = .ok (.ireturn, 1) := by decide +kernel
theorem d_X10_shift_61 : decode prog_1_method_32_code 61 = .ok (.aload 6, 2) := by decide +kernel
theorem d_X10_shift_63 : decode prog_1_method_32_code 63 = .ok (.iload_n 2, 1) := by decide +kernel
theorem d_X10_shift_64 : decode prog_1_method_32_code 64 = .ok (.iload 5, 2) := by decide +kernel
theorem d_X10_shift_66 : decode prog_1_method_32_code 66 = .ok (.invokevirtual 326, 3) := by decide +kernel
theorem d_X10_shift_69 : decode prog_1_method_32_code 69 = .ok (.ifCond .eq 15, 3) := by decide +kernel
theorem d_X10_shift_72 : decode prog_1_method_32_code 72 = .ok (.aload 7, 2) := by decide +kernel
theorem d_X10_shift_74 : decode prog_1_method_32_code 74 = .ok (.iload 4, 2) := by decide +kernel
theorem d_X10_shift_76 : decode prog_1_method_32_code 76 = .ok (.iload 5, 2) := by decide +kernel
theorem d_X10_shift_78 : decode prog_1_method_32_code 78 = .ok (.invokevirtual 326, 3) := by decide +kernel
theorem d_X10_shift_81 : decode prog_1_method_32_code 81 = .ok (.ifCond .ne 6, 3) := by decide +kernel
theorem d_X10_shift_84 : decode prog_1_method_32_code 84 = .ok (.bipush (-12), 2) := by decide +kernel
theorem d_X10_shift_86 : decode prog_1_method_32_code 86 = .ok (.ireturn, 1) := by decide +kernel
theorem d_X10_shift_87 : decode prog_1_method_32_code 87 = .ok (.aload 6, 2) := by decide +kernel
theorem d_X10_shift_89 : decode prog_1_method_32_code 89 = .ok (.getfield 291, 3) := by decide +kernel
theorem d_X10_shift_92 : decode prog_1_method_32_code 92 = .ok (.iload_n 2, 1) := by decide +kernel
theorem d_X10_shift_93 : decode prog_1_method_32_code 93 = .ok (.aload 7, 2) := by decide +kernel
theorem d_X10_shift_95 : decode prog_1_method_32_code 95 = .ok (.getfield 291, 3) := by decide +kernel
theorem d_X10_shift_98 : decode prog_1_method_32_code 98 = .ok (.iload 4, 2) := by decide +kernel
theorem d_X10_shift_100 : decode prog_1_method_32_code 100 = .ok (.iload 5, 2) := by decide +kernel
theorem d_X10_shift_102 : decode prog_1_method_32_code 102 = .ok (.invokestatic 330, 3) := by decide +kernel
theorem d_X10_shift_105 : decode prog_1_method_32_code 105 = .ok (.iload 5, 2) := by decide +kernel
theorem d_X10_shift_107 : decode prog_1_method_32_code 107 = .ok (.ireturn, 1) := by decide +kernel
def f_X10_shift (a0 : Int) (a1 : Int) (a2 : Int) (a3 : Int) (a4 : Int) (M0 : tp_M) : Option (Int × tp_M) :=
  (f_X10_sheetAt a0 M0).bind fun r1 =>
  (f_X10_sheetAt a2 M0).bind fun r3 =>
  if r1 = -1 then
    some ((-1), M0)
  else
    if r3 = -1 then
      some ((-1), M0)
    else
      if tp_tg r1 = 6 then
        (f_X6_isMissing r1 M0).bind fun r8 =>
        if ¬ r8 = 0 then
          some ((-11), M0)
        else
          if tp_tg r3 = 6 then
            (f_X6_isMissing r3 M0).bind fun r12 =>
            if r12 = 0 then
              if (M0 r1 0) = (M0 r3 0) then
                (f_X6_hasRun r1 a1 a4 M0).bind fun r16 =>
                if r16 = 0 then
                  some ((-12), M0)
                else
                  (f_X6_hasRun r3 a3 a4 M0).bind fun r19 =>
                  if ¬ r19 = 0 then
                    if 0 ≤ a1 ∧ 0 ≤ a3 ∧ 0 ≤ a4 ∧ a1 + a4 ≤ 40 ∧ a3 + a4 ≤ 40 then
                      tp_mp (tp_cp M0 (r1 + 1) a1 (r3 + 1) a3 a4) fun M22 =>
                      some (a4, M22) else none
                  else
                    some ((-12), M0)
              else
                some ((-13), M0)
            else
              some ((-11), M0) else none else none
set_option maxHeartbeats 4000000 in
set_option maxRecDepth 100000 in
theorem T_X10_shift (G : tp_G) (a0 : Int) (a1 : Int) (a2 : Int) (a3 : Int) (a4 : Int) (M0 : tp_M) : tp_J i_X10_shift (tp_rm 1) G 0 0 o_X10_shift tp_NC (tp_st M0) 0 0 [some (.inr (.inr 0)), some (.inl a0), some (.inl a1), some (.inl a2), some (.inl a3), some (.inl a4), none, none] 0 [] (f_X10_shift a0 a1 a2 a3 a4 M0) := by
  unfold f_X10_shift
  refine j_aload_n rfl d_X10_shift_0 rfl ?_
  refine j_iload_n rfl d_X10_shift_1 rfl ?_
  refine j_bind (fun r1 h2 => ?_)
  refine j_callV (y := y_X10_sheetAt) (I' := i_X10_sheetAt) (avs := [.inl a0]) (c := 0) (st := []) (c_X10_sheetAt G a0 M0 r1 h2) cs_Main_280 wd_939 wd_941 ws_33 tg_0 rfl rfl rfl (Nat.le_of_ble_eq_true rfl) ⟨rfl, rfl⟩ ⟨by decide, by decide⟩ ⟨by decide, by decide⟩ d_X10_shift_2 ?_
  refine j_astore (lv' := [some (.inr (.inr 0)), some (.inl a0), some (.inl a1), some (.inl a2), some (.inl a3), some (.inl a4), some (.inr (.inr r1)), none]) d_X10_shift_5 (Nat.le_of_ble_eq_true rfl) rfl ?_
  refine j_aload_n rfl d_X10_shift_7 rfl ?_
  refine j_iload_n rfl d_X10_shift_8 rfl ?_
  refine j_bind (fun r3 h4 => ?_)
  refine j_callV (y := y_X10_sheetAt) (I' := i_X10_sheetAt) (avs := [.inl a2]) (c := 0) (st := []) (c_X10_sheetAt G a2 M0 r3 h4) cs_Main_280 wd_939 wd_941 ws_33 tg_0 rfl rfl rfl (Nat.le_of_ble_eq_true rfl) ⟨rfl, rfl⟩ ⟨by decide, by decide⟩ ⟨by decide, by decide⟩ d_X10_shift_9 ?_
  refine j_astore (lv' := [some (.inr (.inr 0)), some (.inl a0), some (.inl a1), some (.inl a2), some (.inl a3), some (.inl a4), some (.inr (.inr r1)), some (.inr (.inr r3))]) d_X10_shift_12 (Nat.le_of_ble_eq_true rfl) rfl ?_
  refine j_aload d_X10_shift_14 rfl ?_
  refine j_ifnull (tgt := 24) d_X10_shift_16 (by decide) (fun h5 => ?_) (fun h5 => ?_)
  · refine j_iconst ⟨by decide, by decide⟩ d_X10_shift_24 ?_
    exact j_iret d_X10_shift_25 rfl rfl ⟨rfl, rfl⟩
  · refine j_aload d_X10_shift_19 rfl ?_
    refine j_ifnonnull (tgt := 26) d_X10_shift_21 (by decide) (fun h6 => ?_) (fun h6 => ?_)
    · refine j_iconst ⟨by decide, by decide⟩ d_X10_shift_24 ?_
      exact j_iret d_X10_shift_25 rfl rfl ⟨rfl, rfl⟩
    · refine j_aload d_X10_shift_26 rfl ?_
      refine tp_chk (fun ht7 => ?_)
      refine j_bind (fun r8 h9 => ?_)
      refine j_callV (y := y_X6_isMissing) (I' := i_X6_isMissing) (avs := []) (c := r1) (st := []) (c_X6_isMissing G r1 M0 r8 h9) cs_Main_284 wd_943 wd_944 wd_945 ht7 rfl rfl rfl (Nat.le_of_ble_eq_true rfl) ⟨rfl, rfl⟩ ⟨by decide, by decide⟩ ⟨by decide, by decide⟩ d_X10_shift_28 ?_
      refine j_if_ne (tgt := 42) d_X10_shift_31 (by decide) (fun h10 => ?_) (fun h10 => ?_)
      · refine j_bipush ⟨by decide, by decide⟩ (by decide +kernel) d_X10_shift_42 ?_
        exact j_iret d_X10_shift_44 rfl rfl ⟨rfl, rfl⟩
      · refine j_aload d_X10_shift_34 rfl ?_
        refine tp_chk (fun ht11 => ?_)
        refine j_bind (fun r12 h13 => ?_)
        refine j_callV (y := y_X6_isMissing) (I' := i_X6_isMissing) (avs := []) (c := r3) (st := []) (c_X6_isMissing G r3 M0 r12 h13) cs_Main_284 wd_943 wd_944 wd_945 ht11 rfl rfl rfl (Nat.le_of_ble_eq_true rfl) ⟨rfl, rfl⟩ ⟨by decide, by decide⟩ ⟨by decide, by decide⟩ d_X10_shift_36 ?_
        refine j_if_eq (tgt := 45) d_X10_shift_39 (by decide) (fun h14 => ?_) (fun h14 => ?_)
        · refine j_aload d_X10_shift_45 rfl ?_
          refine j_geti fl_Main_323 ht7 d_X10_shift_47 ?_
          refine j_aload d_X10_shift_50 rfl ?_
          refine j_geti fl_Main_323 ht11 d_X10_shift_52 ?_
          refine j_icmp_eq (tgt := 61) d_X10_shift_55 (by decide) (fun h15 => ?_) (fun h15 => ?_)
          · refine j_aload d_X10_shift_61 rfl ?_
            refine j_iload_n rfl d_X10_shift_63 rfl ?_
            refine j_iload d_X10_shift_64 rfl ?_
            refine j_bind (fun r16 h17 => ?_)
            refine j_callV (y := y_X6_hasRun) (I' := i_X6_hasRun) (avs := [.inl a1, .inl a4]) (c := r1) (st := []) (c_X6_hasRun G r1 a1 a4 M0 r16 h17) cs_Main_326 wd_1001 wd_1002 wd_1003 ht7 rfl rfl rfl (Nat.le_of_ble_eq_true rfl) ⟨rfl, rfl⟩ ⟨by decide, by decide⟩ ⟨by decide, by decide⟩ d_X10_shift_66 ?_
            refine j_if_eq (tgt := 84) d_X10_shift_69 (by decide) (fun h18 => ?_) (fun h18 => ?_)
            · refine j_bipush ⟨by decide, by decide⟩ (by decide +kernel) d_X10_shift_84 ?_
              exact j_iret d_X10_shift_86 rfl rfl ⟨rfl, rfl⟩
            · refine j_aload d_X10_shift_72 rfl ?_
              refine j_iload d_X10_shift_74 rfl ?_
              refine j_iload d_X10_shift_76 rfl ?_
              refine j_bind (fun r19 h20 => ?_)
              refine j_callV (y := y_X6_hasRun) (I' := i_X6_hasRun) (avs := [.inl a3, .inl a4]) (c := r3) (st := []) (c_X6_hasRun G r3 a3 a4 M0 r19 h20) cs_Main_326 wd_1001 wd_1002 wd_1003 ht11 rfl rfl rfl (Nat.le_of_ble_eq_true rfl) ⟨rfl, rfl⟩ ⟨by decide, by decide⟩ ⟨by decide, by decide⟩ d_X10_shift_78 ?_
              refine j_if_ne (tgt := 87) d_X10_shift_81 (by decide) (fun h21 => ?_) (fun h21 => ?_)
              · refine j_aload d_X10_shift_87 rfl ?_
                refine j_getr fl_Main_291 ht7 (fam_6_2 _ ht7).1 d_X10_shift_89 ?_
                refine j_iload_n rfl d_X10_shift_92 rfl ?_
                refine j_aload d_X10_shift_93 rfl ?_
                refine j_getr fl_Main_291 ht11 (fam_6_2 _ ht11).1 d_X10_shift_95 ?_
                refine j_iload d_X10_shift_98 rfl ?_
                refine j_iload d_X10_shift_100 rfl ?_
                refine j_acpi ((fam_6_2 _ ht7).2.1) ((fam_6_2 _ ht7).2.2) ((fam_6_2 _ ht11).2.1) ((fam_6_2 _ ht11).2.2) wd_1005 wd_594 wd_593 wd_15 ⟨(by decide : 1 ≤ ((tp_rm 1) : Room).frames), (by decide : 60 ≤ ((tp_rm 1) : Room).locals)⟩ (Nat.le_of_ble_eq_true rfl) d_X10_shift_102 (fun M22 hM22 => ?_)
                refine j_iload d_X10_shift_105 rfl ?_
                exact j_iret d_X10_shift_107 rfl rfl ⟨rfl, rfl⟩
              · refine j_bipush ⟨by decide, by decide⟩ (by decide +kernel) d_X10_shift_84 ?_
                exact j_iret d_X10_shift_86 rfl rfl ⟨rfl, rfl⟩
          · refine j_bipush ⟨by decide, by decide⟩ (by decide +kernel) d_X10_shift_58 ?_
            exact j_iret d_X10_shift_60 rfl rfl ⟨rfl, rfl⟩
        · refine j_bipush ⟨by decide, by decide⟩ (by decide +kernel) d_X10_shift_42 ?_
          exact j_iret d_X10_shift_44 rfl rfl ⟨rfl, rfl⟩
set_option maxHeartbeats 4000000 in
set_option maxRecDepth 100000 in
theorem c_X10_shift (G : tp_G) (a0 : Int) (a1 : Int) (a2 : Int) (a3 : Int) (a4 : Int) (M0 : tp_M) (r : Int × tp_M) (h : f_X10_shift a0 a1 a2 a3 a4 M0 = some r) (l : Launch) : Met l y_X10_shift (tp_ws y_X10_shift i_X10_shift) (tp_rm 1) (tp_Pc G [.inr (.inr 0), .inl a0, .inl a1, .inl a2, .inl a3, .inl a4] tp_NC (tp_st M0)) (tp_Q G (o_X10_shift r)) 0 0 (tp_A G) :=
  tp_met (I := i_X10_shift) (y := y_X10_shift) (by decide +kernel) (Eq.refl "TypesAtPrime") (Eq.refl "shift") (lv := [some (.inr (.inr 0)), some (.inl a0), some (.inl a1), some (.inl a2), some (.inl a3), some (.inl a4), none, none]) rfl (Nat.le_of_ble_eq_true rfl) (T_X10_shift G a0 a1 a2 a3 a4 M0) h l
def y_X10_slotsInUse : MethodName := ⟨"TypesAtPrime", "slotsInUse", "()I"⟩
abbrev i_X10_slotsInUse : tp_I := (prog_1_method_45_code, "TypesAtPrime", (some .int), 3, "slotsInUse")
abbrev o_X10_slotsInUse (M : tp_M) : Int → tp_O := fun r => (some (.inl r), tp_NC, tp_st M)
theorem d_X10_slotsInUse_0 : decode prog_1_method_45_code 0 = .ok (.iconst 0, 1) := by decide +kernel
theorem d_X10_slotsInUse_1 : decode prog_1_method_45_code 1 = .ok (.istore_n 1, 1) := by decide +kernel
theorem d_X10_slotsInUse_2 : decode prog_1_method_45_code 2 = .ok (.iconst 0, 1) := by decide +kernel
theorem d_X10_slotsInUse_3 : decode prog_1_method_45_code 3 = .ok (.istore_n 2, 1) := by decide +kernel
theorem d_X10_slotsInUse_4 : decode prog_1_method_45_code 4 = .ok (.iload_n 2, 1) := by decide +kernel
theorem d_X10_slotsInUse_5 : decode prog_1_method_45_code 5 = .ok (.iconst 5, 1) := by decide +kernel
theorem d_X10_slotsInUse_6 : decode prog_1_method_45_code 6 = .ok (.if_icmp .ge 27, 3) := by decide +kernel
theorem d_X10_slotsInUse_9 : decode prog_1_method_45_code 9 = .ok (.aload_n 0, 1) := by decide +kernel
theorem d_X10_slotsInUse_10 : decode prog_1_method_45_code 10 = .ok (.getfield 24, 3) := by decide +kernel
theorem d_X10_slotsInUse_13 : decode prog_1_method_45_code 13 = .ok (.iload_n 2, 1) := by decide +kernel
theorem d_X10_slotsInUse_14 : decode prog_1_method_45_code 14 = .ok (.aaload, 1) := by decide +kernel
theorem d_X10_slotsInUse_15 : decode prog_1_method_45_code 15 = .ok (.invokestatic 118, 3) := by decide +kernel
theorem d_X10_slotsInUse_18 : decode prog_1_method_45_code 18 = .ok (.ifCond .lt 9, 3) := by decide +kernel
theorem d_X10_slotsInUse_21 : decode prog_1_method_45_code 21 = .ok (.iload_n 1, 1) := by decide +kernel
theorem d_X10_slotsInUse_22 : decode prog_1_method_45_code 22 = .ok (.iconst 1, 1) := by decide +kernel
theorem d_X10_slotsInUse_23 : decode prog_1_method_45_code 23 = .ok (.iload_n 2, 1) := by decide +kernel
theorem d_X10_slotsInUse_24 : decode prog_1_method_45_code 24 = .ok (.ishl, 1) := by decide +kernel
theorem d_X10_slotsInUse_25 : decode prog_1_method_45_code 25 = .ok (.ior, 1) := by decide +kernel
theorem d_X10_slotsInUse_26 : decode prog_1_method_45_code 26 = .ok (.istore_n 1, 1) := by decide +kernel
theorem d_X10_slotsInUse_27 : decode prog_1_method_45_code 27 = .ok (.iinc 2 1, 3) := by decide +kernel
theorem d_X10_slotsInUse_30 : decode prog_1_method_45_code 30 = .ok (.goto (-26), 3) := by decide +kernel
theorem d_X10_slotsInUse_33 : decode prog_1_method_45_code 33 = .ok (.iload_n 1, 1) := by decide +kernel
theorem d_X10_slotsInUse_34 : decode prog_1_method_45_code 34 = .ok (.ireturn, 1) := by decide +kernel
def f_X10_slotsInUse_27 (rec_4 : Int → Int → Option (Int)) (x1 : Int) (x2 : Int) (M0 : tp_M) : Option (Int) :=
  tp_lt (tp_w (x2 + 1)) fun y6 =>
  rec_4 x1 y6
set_option maxHeartbeats 4000000 in
set_option maxRecDepth 100000 in
theorem T_X10_slotsInUse_27 (G : tp_G) (rec_4 : Int → Int → Option (Int)) (x1 : Int) (x2 : Int) (M0 : tp_M) (hrec_4 : ∀ (x1' x2' : Int), tp_J i_X10_slotsInUse (tp_rm 1) G 0 0 (o_X10_slotsInUse M0) tp_NC (tp_st M0) 0 0 [some (.inr (.inr 0)), some (.inl (x1')), some (.inl (x2'))] 4 [] (rec_4 x1' x2')) : tp_J i_X10_slotsInUse (tp_rm 1) G 0 0 (o_X10_slotsInUse M0) tp_NC (tp_st M0) 0 0 [some (.inr (.inr 0)), some (.inl x1), some (.inl x2)] 27 [] (f_X10_slotsInUse_27 rec_4 x1 x2 M0) := by
  unfold f_X10_slotsInUse_27
  refine j_iincN (lv' := fun y6 => [some (.inr (.inr 0)), some (.inl x1), some (.inl y6)]) d_X10_slotsInUse_27 rfl (Nat.le_of_ble_eq_true rfl) (fun _ => rfl) (fun y6 hy6 => ?_)
  refine j_goto (tgt := 4) d_X10_slotsInUse_30 (by decide) ?_
  exact j_wk [true, true, true] rfl rfl (hrec_4 x1 y6)
def f_X10_slotsInUse_4B (M0 : tp_M) (rec_4 : Int → Int → Option (Int)) (x1 : Int) (x2 : Int) : Option (Int) :=
  if 5 ≤ x2 then
    some x1
  else
    if 0 ≤ x2 ∧ x2 < 5 then
      (f_X10_degreeOf (4 + x2) M0).bind fun r3 =>
      if r3 < 0 then
        f_X10_slotsInUse_27 rec_4 x1 x2 M0
      else
        tp_lt ((tp_or x1 (tp_shl 1 x2))) fun y7 =>
        f_X10_slotsInUse_27 rec_4 y7 x2 M0 else none
set_option maxHeartbeats 4000000 in
set_option maxRecDepth 100000 in
theorem T_X10_slotsInUse_4B (G : tp_G) (M0 : tp_M) (rec_4 : Int → Int → Option (Int)) (hrec_4 : ∀ (x1' x2' : Int), tp_J i_X10_slotsInUse (tp_rm 1) G 0 0 (o_X10_slotsInUse M0) tp_NC (tp_st M0) 0 0 [some (.inr (.inr 0)), some (.inl (x1')), some (.inl (x2'))] 4 [] (rec_4 x1' x2')) (x1 : Int) (x2 : Int) : tp_J i_X10_slotsInUse (tp_rm 1) G 0 0 (o_X10_slotsInUse M0) tp_NC (tp_st M0) 0 0 [some (.inr (.inr 0)), some (.inl x1), some (.inl x2)] 4 [] (f_X10_slotsInUse_4B M0 rec_4 x1 x2) := by
  unfold f_X10_slotsInUse_4B
  refine j_iload_n rfl d_X10_slotsInUse_4 rfl ?_
  refine j_iconst ⟨by decide, by decide⟩ d_X10_slotsInUse_5 ?_
  refine j_icmp_ge (tgt := 33) d_X10_slotsInUse_6 (by decide) (fun h1 => ?_) (fun h1 => ?_)
  · refine j_iload_n rfl d_X10_slotsInUse_33 rfl ?_
    exact j_iret d_X10_slotsInUse_34 rfl rfl ⟨rfl, rfl⟩
  · refine j_aload_n rfl d_X10_slotsInUse_9 rfl ?_
    refine j_getr fl_Main_24 tg_0 rv_0_3 d_X10_slotsInUse_10 ?_
    refine j_iload_n rfl d_X10_slotsInUse_13 rfl ?_
    refine j_aald (v := (4 + x2)) (ty := (.array .int)) tg_3 (by decide) al_3 (by decide) rfl d_X10_slotsInUse_14 (fun h1 h2 => (aa_3 _ h1 h2).1) (fun hi2 => ?_)
    refine j_bind (fun r3 h4 => ?_)
    refine j_callS (y := y_X10_degreeOf) (I' := i_X10_degreeOf) (avs := [.inr (.inr (4 + x2))]) (st := []) (c_X10_degreeOf G (4 + x2) M0 r3 h4) cs_Main_118 wd_516 wd_517 rfl rfl (Nat.le_of_ble_eq_true rfl) ⟨rfl, rfl⟩ ⟨by decide, by decide⟩ ⟨by decide, by decide⟩ d_X10_slotsInUse_15 ?_
    refine j_if_lt (tgt := 27) d_X10_slotsInUse_18 (by decide) (fun h5 => ?_) (fun h5 => ?_)
    · exact j_wk [true, true, true] rfl rfl (T_X10_slotsInUse_27 G rec_4 x1 x2 M0 hrec_4)
    · refine j_iload_n rfl d_X10_slotsInUse_21 rfl ?_
      refine j_iconst ⟨by decide, by decide⟩ d_X10_slotsInUse_22 ?_
      refine j_iload_n rfl d_X10_slotsInUse_23 rfl ?_
      refine j_ishl d_X10_slotsInUse_24 ?_
      refine j_ior d_X10_slotsInUse_25 ?_
      refine j_nmI (fun y7 hy7 => ?_)
      refine j_istore_n (lv' := [some (.inr (.inr 0)), some (.inl y7), some (.inl x2)]) rfl d_X10_slotsInUse_26 (Nat.le_of_ble_eq_true rfl) rfl ?_
      exact j_wk [true, true, true] rfl rfl (T_X10_slotsInUse_27 G rec_4 y7 x2 M0 hrec_4)
def f_X10_slotsInUse_4 (x1 : Int) (x2 : Int) (M0 : tp_M) : Option (Int) := tp_lp (σ := Int × Int) (fun rec_ u => f_X10_slotsInUse_4B M0 (fun x1' x2' => rec_ (x1', x2')) u.1 u.2) tp_N (x1, x2)
set_option maxHeartbeats 4000000 in
set_option maxRecDepth 100000 in
theorem T_X10_slotsInUse_4 (G : tp_G) (x1 : Int) (x2 : Int) (M0 : tp_M) : tp_J i_X10_slotsInUse (tp_rm 1) G 0 0 (o_X10_slotsInUse M0) tp_NC (tp_st M0) 0 0 [some (.inr (.inr 0)), some (.inl x1), some (.inl x2)] 4 [] (f_X10_slotsInUse_4 x1 x2 M0) := by
  unfold f_X10_slotsInUse_4
  exact j_lp (σ := Int × Int) (n' := fun _ => tp_NC) (g' := fun u => tp_st M0) (k' := fun _ => 0) (q' := fun _ => 0) (lv' := fun u => [some (.inr (.inr 0)), some (.inl u.1), some (.inl u.2)]) (fun rec_ hrec u => T_X10_slotsInUse_4B G M0 (fun x1' x2' => rec_ (x1', x2')) (fun x1' x2' => hrec (x1', x2')) u.1 u.2) tp_N (x1, x2)
def f_X10_slotsInUse (M0 : tp_M) : Option (Int) :=
  f_X10_slotsInUse_4 0 0 M0
set_option maxHeartbeats 4000000 in
set_option maxRecDepth 100000 in
theorem T_X10_slotsInUse (G : tp_G) (M0 : tp_M) : tp_J i_X10_slotsInUse (tp_rm 1) G 0 0 (o_X10_slotsInUse M0) tp_NC (tp_st M0) 0 0 [some (.inr (.inr 0)), none, none] 0 [] (f_X10_slotsInUse M0) := by
  unfold f_X10_slotsInUse
  refine j_iconst ⟨by decide, by decide⟩ d_X10_slotsInUse_0 ?_
  refine j_istore_n (lv' := [some (.inr (.inr 0)), some (.inl 0), none]) rfl d_X10_slotsInUse_1 (Nat.le_of_ble_eq_true rfl) rfl ?_
  refine j_iconst ⟨by decide, by decide⟩ d_X10_slotsInUse_2 ?_
  refine j_istore_n (lv' := [some (.inr (.inr 0)), some (.inl 0), some (.inl 0)]) rfl d_X10_slotsInUse_3 (Nat.le_of_ble_eq_true rfl) rfl ?_
  exact j_wk [true, true, true] rfl rfl (T_X10_slotsInUse_4 G 0 0 M0)
set_option maxHeartbeats 4000000 in
set_option maxRecDepth 100000 in
theorem c_X10_slotsInUse (G : tp_G) (M0 : tp_M) (r : Int) (h : f_X10_slotsInUse M0 = some r) (l : Launch) : Met l y_X10_slotsInUse (tp_ws y_X10_slotsInUse i_X10_slotsInUse) (tp_rm 1) (tp_Pc G [.inr (.inr 0)] tp_NC (tp_st M0)) (tp_Q G ((o_X10_slotsInUse M0) r)) 0 0 (tp_A G) :=
  tp_met (I := i_X10_slotsInUse) (y := y_X10_slotsInUse) (by decide +kernel) (Eq.refl "TypesAtPrime") (Eq.refl "slotsInUse") (lv := [some (.inr (.inr 0)), none, none]) rfl (Nat.le_of_ble_eq_true rfl) (T_X10_slotsInUse G M0) h l
def y_X10_sheetsInUse : MethodName := ⟨"TypesAtPrime", "sheetsInUse", "()I"⟩
abbrev i_X10_sheetsInUse : tp_I := (prog_1_method_46_code, "TypesAtPrime", (some .int), 4, "sheetsInUse")
abbrev o_X10_sheetsInUse (M : tp_M) : Int → tp_O := fun r => (some (.inl r), tp_NC, tp_st M)
theorem d_X10_sheetsInUse_0 : decode prog_1_method_46_code 0 = .ok (.iconst 0, 1) := by decide +kernel
theorem d_X10_sheetsInUse_1 : decode prog_1_method_46_code 1 = .ok (.istore_n 1, 1) := by decide +kernel
theorem d_X10_sheetsInUse_2 : decode prog_1_method_46_code 2 = .ok (.iconst 0, 1) := by decide +kernel
theorem d_X10_sheetsInUse_3 : decode prog_1_method_46_code 3 = .ok (.istore_n 2, 1) := by decide +kernel
theorem d_X10_sheetsInUse_4 : decode prog_1_method_46_code 4 = .ok (.iload_n 2, 1) := by decide +kernel
theorem d_X10_sheetsInUse_5 : decode prog_1_method_46_code 5 = .ok (.iconst 4, 1) := by decide +kernel
theorem d_X10_sheetsInUse_6 : decode prog_1_method_46_code 6 = .ok (.if_icmp .ge 29, 3) := by decide +kernel
theorem d_X10_sheetsInUse_9 : decode prog_1_method_46_code 9 = .ok (.aload_n 0, 1) := by decide +kernel
theorem d_X10_sheetsInUse_10 : decode prog_1_method_46_code 10 = .ok (.iload_n 2, 1) := by decide +kernel
theorem d_X10_sheetsInUse_11 : decode prog_1_method_46_code 11 = .ok (.invokevirtual 280, 3) := by decide +kernel
theorem d_X10_sheetsInUse_14 : decode prog_1_method_46_code 14 = .ok (.astore_n 3, 1) := by decide +kernel
theorem d_X10_sheetsInUse_15 : decode prog_1_method_46_code 15 = .ok (.aload_n 3, 1) := by decide +kernel
theorem d_X10_sheetsInUse_16 : decode prog_1_method_46_code 16 = .ok (.ifnull 13, 3) := by decide +kernel
theorem d_X10_sheetsInUse_19 : decode prog_1_method_46_code 19 = .ok (.aload_n 3, 1) := by decide +kernel
theorem d_X10_sheetsInUse_20 : decode prog_1_method_46_code 20 = .ok (.invokevirtual 284, 3) := by decide +kernel
theorem d_X10_sheetsInUse_23 : decode prog_1_method_46_code 23 = .ok (.ifCond .ne 6, 3) := by decide +kernel
theorem d_X10_sheetsInUse_26 : decode prog_1_method_46_code 26 = .ok (.iinc 1 1, 3) := by decide +kernel
theorem d_X10_sheetsInUse_29 : decode prog_1_method_46_code 29 = .ok (.iinc 2 1, 3) := by decide +kernel
theorem d_X10_sheetsInUse_32 : decode prog_1_method_46_code 32 = .ok (.goto (-28), 3) := by decide +kernel
theorem d_X10_sheetsInUse_35 : decode prog_1_method_46_code 35 = .ok (.iload_n 1, 1) := by decide +kernel
theorem d_X10_sheetsInUse_36 : decode prog_1_method_46_code 36 = .ok (.ireturn, 1) := by decide +kernel
def f_X10_sheetsInUse_29 (rec_4 : Int → Int → Option (Int)) (x1 : Int) (x2 : Int) (M0 : tp_M) : Option (Int) :=
  tp_lt (tp_w (x2 + 1)) fun y5 =>
  rec_4 x1 y5
set_option maxHeartbeats 4000000 in
set_option maxRecDepth 100000 in
theorem T_X10_sheetsInUse_29 (G : tp_G) (rec_4 : Int → Int → Option (Int)) (x1 : Int) (x2 : Int) (M0 : tp_M) (hrec_4 : ∀ (x1' x2' : Int), tp_J i_X10_sheetsInUse (tp_rm 1) G 0 0 (o_X10_sheetsInUse M0) tp_NC (tp_st M0) 0 0 [some (.inr (.inr 0)), some (.inl (x1')), some (.inl (x2')), none] 4 [] (rec_4 x1' x2')) : tp_J i_X10_sheetsInUse (tp_rm 1) G 0 0 (o_X10_sheetsInUse M0) tp_NC (tp_st M0) 0 0 [some (.inr (.inr 0)), some (.inl x1), some (.inl x2), none] 29 [] (f_X10_sheetsInUse_29 rec_4 x1 x2 M0) := by
  unfold f_X10_sheetsInUse_29
  refine j_iincN (lv' := fun y5 => [some (.inr (.inr 0)), some (.inl x1), some (.inl y5), none]) d_X10_sheetsInUse_29 rfl (Nat.le_of_ble_eq_true rfl) (fun _ => rfl) (fun y5 hy5 => ?_)
  refine j_goto (tgt := 4) d_X10_sheetsInUse_32 (by decide) ?_
  exact j_wk [true, true, true, false] rfl rfl (hrec_4 x1 y5)
def f_X10_sheetsInUse_4B (M0 : tp_M) (rec_4 : Int → Int → Option (Int)) (x1 : Int) (x2 : Int) : Option (Int) :=
  if 4 ≤ x2 then
    some x1
  else
    (f_X10_sheetAt x2 M0).bind fun r2 =>
    if r2 = -1 then
      f_X10_sheetsInUse_29 rec_4 x1 x2 M0
    else
      if tp_tg r2 = 6 then
        (f_X6_isMissing r2 M0).bind fun r7 =>
        if ¬ r7 = 0 then
          f_X10_sheetsInUse_29 rec_4 x1 x2 M0
        else
          tp_lt (tp_w (x1 + 1)) fun y10 =>
          f_X10_sheetsInUse_29 rec_4 y10 x2 M0 else none
set_option maxHeartbeats 4000000 in
set_option maxRecDepth 100000 in
theorem T_X10_sheetsInUse_4B (G : tp_G) (M0 : tp_M) (rec_4 : Int → Int → Option (Int)) (hrec_4 : ∀ (x1' x2' : Int), tp_J i_X10_sheetsInUse (tp_rm 1) G 0 0 (o_X10_sheetsInUse M0) tp_NC (tp_st M0) 0 0 [some (.inr (.inr 0)), some (.inl (x1')), some (.inl (x2')), none] 4 [] (rec_4 x1' x2')) (x1 : Int) (x2 : Int) : tp_J i_X10_sheetsInUse (tp_rm 1) G 0 0 (o_X10_sheetsInUse M0) tp_NC (tp_st M0) 0 0 [some (.inr (.inr 0)), some (.inl x1), some (.inl x2), none] 4 [] (f_X10_sheetsInUse_4B M0 rec_4 x1 x2) := by
  unfold f_X10_sheetsInUse_4B
  refine j_iload_n rfl d_X10_sheetsInUse_4 rfl ?_
  refine j_iconst ⟨by decide, by decide⟩ d_X10_sheetsInUse_5 ?_
  refine j_icmp_ge (tgt := 35) d_X10_sheetsInUse_6 (by decide) (fun h1 => ?_) (fun h1 => ?_)
  · refine j_iload_n rfl d_X10_sheetsInUse_35 rfl ?_
    exact j_iret d_X10_sheetsInUse_36 rfl rfl ⟨rfl, rfl⟩
  · refine j_aload_n rfl d_X10_sheetsInUse_9 rfl ?_
    refine j_iload_n rfl d_X10_sheetsInUse_10 rfl ?_
    refine j_bind (fun r2 h3 => ?_)
    refine j_callV (y := y_X10_sheetAt) (I' := i_X10_sheetAt) (avs := [.inl x2]) (c := 0) (st := []) (c_X10_sheetAt G x2 M0 r2 h3) cs_Main_280 wd_939 wd_941 ws_33 tg_0 rfl rfl rfl (Nat.le_of_ble_eq_true rfl) ⟨rfl, rfl⟩ ⟨by decide, by decide⟩ ⟨by decide, by decide⟩ d_X10_sheetsInUse_11 ?_
    refine j_astore_n (lv' := [some (.inr (.inr 0)), some (.inl x1), some (.inl x2), some (.inr (.inr r2))]) rfl d_X10_sheetsInUse_14 (Nat.le_of_ble_eq_true rfl) rfl ?_
    refine j_aload_n rfl d_X10_sheetsInUse_15 rfl ?_
    refine j_ifnull (tgt := 29) d_X10_sheetsInUse_16 (by decide) (fun h4 => ?_) (fun h4 => ?_)
    · exact j_wk [true, true, true, false] rfl rfl (T_X10_sheetsInUse_29 G rec_4 x1 x2 M0 hrec_4)
    · refine j_aload_n rfl d_X10_sheetsInUse_19 rfl ?_
      refine tp_chk (fun ht6 => ?_)
      refine j_bind (fun r7 h8 => ?_)
      refine j_callV (y := y_X6_isMissing) (I' := i_X6_isMissing) (avs := []) (c := r2) (st := []) (c_X6_isMissing G r2 M0 r7 h8) cs_Main_284 wd_943 wd_944 wd_945 ht6 rfl rfl rfl (Nat.le_of_ble_eq_true rfl) ⟨rfl, rfl⟩ ⟨by decide, by decide⟩ ⟨by decide, by decide⟩ d_X10_sheetsInUse_20 ?_
      refine j_if_ne (tgt := 29) d_X10_sheetsInUse_23 (by decide) (fun h9 => ?_) (fun h9 => ?_)
      · exact j_wk [true, true, true, false] rfl rfl (T_X10_sheetsInUse_29 G rec_4 x1 x2 M0 hrec_4)
      · refine j_iincN (lv' := fun y10 => [some (.inr (.inr 0)), some (.inl y10), some (.inl x2), some (.inr (.inr r2))]) d_X10_sheetsInUse_26 rfl (Nat.le_of_ble_eq_true rfl) (fun _ => rfl) (fun y10 hy10 => ?_)
        exact j_wk [true, true, true, false] rfl rfl (T_X10_sheetsInUse_29 G rec_4 y10 x2 M0 hrec_4)
def f_X10_sheetsInUse_4 (x1 : Int) (x2 : Int) (M0 : tp_M) : Option (Int) := tp_lp (σ := Int × Int) (fun rec_ u => f_X10_sheetsInUse_4B M0 (fun x1' x2' => rec_ (x1', x2')) u.1 u.2) tp_N (x1, x2)
set_option maxHeartbeats 4000000 in
set_option maxRecDepth 100000 in
theorem T_X10_sheetsInUse_4 (G : tp_G) (x1 : Int) (x2 : Int) (M0 : tp_M) : tp_J i_X10_sheetsInUse (tp_rm 1) G 0 0 (o_X10_sheetsInUse M0) tp_NC (tp_st M0) 0 0 [some (.inr (.inr 0)), some (.inl x1), some (.inl x2), none] 4 [] (f_X10_sheetsInUse_4 x1 x2 M0) := by
  unfold f_X10_sheetsInUse_4
  exact j_lp (σ := Int × Int) (n' := fun _ => tp_NC) (g' := fun u => tp_st M0) (k' := fun _ => 0) (q' := fun _ => 0) (lv' := fun u => [some (.inr (.inr 0)), some (.inl u.1), some (.inl u.2), none]) (fun rec_ hrec u => T_X10_sheetsInUse_4B G M0 (fun x1' x2' => rec_ (x1', x2')) (fun x1' x2' => hrec (x1', x2')) u.1 u.2) tp_N (x1, x2)
def f_X10_sheetsInUse (M0 : tp_M) : Option (Int) :=
  f_X10_sheetsInUse_4 0 0 M0
set_option maxHeartbeats 4000000 in
set_option maxRecDepth 100000 in
theorem T_X10_sheetsInUse (G : tp_G) (M0 : tp_M) : tp_J i_X10_sheetsInUse (tp_rm 1) G 0 0 (o_X10_sheetsInUse M0) tp_NC (tp_st M0) 0 0 [some (.inr (.inr 0)), none, none, none] 0 [] (f_X10_sheetsInUse M0) := by
  unfold f_X10_sheetsInUse
  refine j_iconst ⟨by decide, by decide⟩ d_X10_sheetsInUse_0 ?_
  refine j_istore_n (lv' := [some (.inr (.inr 0)), some (.inl 0), none, none]) rfl d_X10_sheetsInUse_1 (Nat.le_of_ble_eq_true rfl) rfl ?_
  refine j_iconst ⟨by decide, by decide⟩ d_X10_sheetsInUse_2 ?_
  refine j_istore_n (lv' := [some (.inr (.inr 0)), some (.inl 0), some (.inl 0), none]) rfl d_X10_sheetsInUse_3 (Nat.le_of_ble_eq_true rfl) rfl ?_
  exact j_wk [true, true, true, false] rfl rfl (T_X10_sheetsInUse_4 G 0 0 M0)
set_option maxHeartbeats 4000000 in
set_option maxRecDepth 100000 in
theorem c_X10_sheetsInUse (G : tp_G) (M0 : tp_M) (r : Int) (h : f_X10_sheetsInUse M0 = some r) (l : Launch) : Met l y_X10_sheetsInUse (tp_ws y_X10_sheetsInUse i_X10_sheetsInUse) (tp_rm 1) (tp_Pc G [.inr (.inr 0)] tp_NC (tp_st M0)) (tp_Q G ((o_X10_sheetsInUse M0) r)) 0 0 (tp_A G) :=
  tp_met (I := i_X10_sheetsInUse) (y := y_X10_sheetsInUse) (by decide +kernel) (Eq.refl "TypesAtPrime") (Eq.refl "sheetsInUse") (lv := [some (.inr (.inr 0)), none, none, none]) rfl (Nat.le_of_ble_eq_true rfl) (T_X10_sheetsInUse G M0) h l
theorem wd_39 : (.fieldLink "TypesAtPrime" 336 "TypesAtPrime$Numbers" "limit" "I" : Cond) ∈ lw_tbl := List.mem_append_right _ (List.mem_of_getElem? (i := 39) (by decide +kernel))
theorem fl_Main_336 : tp_F "TypesAtPrime" 336 4 1 0 := ⟨_, _, _, rfl, by decide, rfl, wd_39, rfl, by decide⟩
theorem wd_1013 : (.code ⟨"TypesAtPrime", "slotsInUse", "()I"⟩ prog_1_method_45_code 3 (some .int) : Cond) ∈ lw_tbl := List.mem_append_right _ (List.mem_of_getElem? (i := 1013) (by decide +kernel))
theorem cs_Main_339 : tp_CS "TypesAtPrime" 339 y_X10_slotsInUse i_X10_slotsInUse 0 := ⟨wd_1013, wd_1, by decide, by decide, by decide +kernel⟩
theorem wd_1010 : (.methodLink "TypesAtPrime" 339 ⟨"TypesAtPrime", "slotsInUse", "()I"⟩ : Cond) ∈ lw_tbl := List.mem_append_right _ (List.mem_of_getElem? (i := 1010) (by decide +kernel))
theorem wd_1012 : (.instanceMethod ⟨"TypesAtPrime", "slotsInUse", "()I"⟩ : Cond) ∈ lw_tbl := List.mem_append_right _ (List.mem_of_getElem? (i := 1012) (by decide +kernel))
theorem ws_34 : (.selects "TypesAtPrime" ⟨"TypesAtPrime", "slotsInUse", "()I"⟩ ⟨"TypesAtPrime", "slotsInUse", "()I"⟩ : Cond) ∈ lw_tbl := List.mem_append_left _ (List.mem_of_getElem? (i := 34) (by decide +kernel))
theorem wd_1017 : (.code ⟨"TypesAtPrime", "sheetsInUse", "()I"⟩ prog_1_method_46_code 4 (some .int) : Cond) ∈ lw_tbl := List.mem_append_right _ (List.mem_of_getElem? (i := 1017) (by decide +kernel))
theorem cs_Main_342 : tp_CS "TypesAtPrime" 342 y_X10_sheetsInUse i_X10_sheetsInUse 0 := ⟨wd_1017, wd_1, by decide, by decide, by decide +kernel⟩
theorem wd_1014 : (.methodLink "TypesAtPrime" 342 ⟨"TypesAtPrime", "sheetsInUse", "()I"⟩ : Cond) ∈ lw_tbl := List.mem_append_right _ (List.mem_of_getElem? (i := 1014) (by decide +kernel))
theorem wd_1016 : (.instanceMethod ⟨"TypesAtPrime", "sheetsInUse", "()I"⟩ : Cond) ∈ lw_tbl := List.mem_append_right _ (List.mem_of_getElem? (i := 1016) (by decide +kernel))
theorem ws_35 : (.selects "TypesAtPrime" ⟨"TypesAtPrime", "sheetsInUse", "()I"⟩ ⟨"TypesAtPrime", "sheetsInUse", "()I"⟩ : Cond) ∈ lw_tbl := List.mem_append_left _ (List.mem_of_getElem? (i := 35) (by decide +kernel))
def y_X10_count : MethodName := ⟨"TypesAtPrime", "count", "(I)I"⟩
abbrev i_X10_count : tp_I := (prog_1_method_33_code, "TypesAtPrime", (some .int), 2, "count")
abbrev o_X10_count (M : tp_M) : Int → tp_O := fun r => (some (.inl r), tp_NC, tp_st M)
theorem d_X10_count_0 : decode prog_1_method_33_code 0 = .ok (.iload_n 1, 1) := by decide +kernel
theorem d_X10_count_1 : decode prog_1_method_33_code 1 = .ok (.tableswitch 86 0 5 #[39, 47, 55, 60, 65, 70], 39) := by decide +kernel
theorem d_X10_count_40 : decode prog_1_method_33_code 40 = .ok (.aload_n 0, 1) := by decide +kernel
theorem d_X10_count_41 : decode prog_1_method_33_code 41 = .ok (.getfield 12, 3) := by decide +kernel
theorem d_X10_count_44 : decode prog_1_method_33_code 44 = .ok (.getfield 75, 3) := by decide +kernel
theorem d_X10_count_47 : decode prog_1_method_33_code 47 = .ok (.ireturn, 1) := by decide +kernel
theorem d_X10_count_48 : decode prog_1_method_33_code 48 = .ok (.aload_n 0, 1) := by decide +kernel
theorem d_X10_count_49 : decode prog_1_method_33_code 49 = .ok (.getfield 12, 3) := by decide +kernel
theorem d_X10_count_52 : decode prog_1_method_33_code 52 = .ok (.getfield 336, 3) := by decide +kernel
theorem d_X10_count_55 : decode prog_1_method_33_code 55 = .ok (.ireturn, 1) := by decide +kernel
theorem d_X10_count_56 : decode prog_1_method_33_code 56 = .ok (.aload_n 0, 1) := by decide +kernel
theorem d_X10_count_57 : decode prog_1_method_33_code 57 = .ok (.getfield 86, 3) := by decide +kernel
theorem d_X10_count_60 : decode prog_1_method_33_code 60 = .ok (.ireturn, 1) := by decide +kernel
theorem d_X10_count_61 : decode prog_1_method_33_code 61 = .ok (.aload_n 0, 1) := by decide +kernel
theorem d_X10_count_62 : decode prog_1_method_33_code 62 = .ok (.invokevirtual 339, 3) := by decide +kernel
theorem d_X10_count_65 : decode prog_1_method_33_code 65 = .ok (.ireturn, 1) := by decide +kernel
theorem d_X10_count_66 : decode prog_1_method_33_code 66 = .ok (.aload_n 0, 1) := by decide +kernel
theorem d_X10_count_67 : decode prog_1_method_33_code 67 = .ok (.invokevirtual 342, 3) := by decide +kernel
theorem d_X10_count_70 : decode prog_1_method_33_code 70 = .ok (.ireturn, 1) := by decide +kernel
theorem d_X10_count_71 : decode prog_1_method_33_code 71 = .ok (.aload_n 0, 1) := by decide +kernel
theorem d_X10_count_72 : decode prog_1_method_33_code 72 = .ok (.getfield 51, 3) := by decide +kernel
theorem d_X10_count_75 : decode prog_1_method_33_code 75 = .ok (.getfield 163, 3) := by decide +kernel
theorem d_X10_count_78 : decode prog_1_method_33_code 78 = .ok (.ifCond .eq 7, 3) := by decide +kernel
theorem d_X10_count_81 : decode prog_1_method_33_code 81 = .ok (.iconst 1, 1) := by decide +kernel
theorem d_X10_count_82 : decode prog_1_method_33_code 82 = .ok (.goto 4, 3) := by decide +kernel
theorem d_X10_count_85 : decode prog_1_method_33_code 85 = .ok (.iconst 0, 1) := by decide +kernel
theorem d_X10_count_86 : decode prog_1_method_33_code 86 = .ok (.ireturn, 1) := by decide +kernel
theorem d_X10_count_87 : decode prog_1_method_33_code 87 = .ok (.iconst (-1), 1) := by decide +kernel
theorem d_X10_count_88 : decode prog_1_method_33_code 88 = .ok (.ireturn, 1) := by decide +kernel
def f_X10_count (a0 : Int) (M0 : tp_M) : Option (Int) :=
  if a0 = 0 then
    some (M0 1 0)
  else if a0 = 1 then
    some (M0 1 1)
  else if a0 = 2 then
    some (M0 0 2)
  else if a0 = 3 then
    (f_X10_slotsInUse M0).bind fun r5 =>
    some r5
  else if a0 = 4 then
    (f_X10_sheetsInUse M0).bind fun r8 =>
    some r8
  else if a0 = 5 then
    if (M0 41 0) = 0 then
      some 0
    else
      some 1
  else 
    some (-1)
set_option maxHeartbeats 4000000 in
set_option maxRecDepth 100000 in
theorem T_X10_count (G : tp_G) (a0 : Int) (M0 : tp_M) : tp_J i_X10_count (tp_rm 2) G 0 0 (o_X10_count M0) tp_NC (tp_st M0) 0 0 [some (.inr (.inr 0)), some (.inl a0)] 0 [] (f_X10_count a0 M0) := by
  unfold f_X10_count
  refine j_iload_n rfl d_X10_count_0 rfl ?_
  refine tp_ite (fun h1 => ?_) (fun h1 => ?_)
  · refine j_tsin (tgt := 40) d_X10_count_1 (by omega) (by omega) (off := 39) (by rw [h1]; decide +kernel) (by decide) ?_
    refine j_aload_n rfl d_X10_count_40 rfl ?_
    refine j_getr fl_Main_12 tg_0 rv_0_0 d_X10_count_41 ?_
    refine j_geti fl_Main_75 tg_1 d_X10_count_44 ?_
    exact j_iret d_X10_count_47 rfl rfl ⟨rfl, rfl⟩
  refine tp_ite (fun h2 => ?_) (fun h2 => ?_)
  · refine j_tsin (tgt := 48) d_X10_count_1 (by omega) (by omega) (off := 47) (by rw [h2]; decide +kernel) (by decide) ?_
    refine j_aload_n rfl d_X10_count_48 rfl ?_
    refine j_getr fl_Main_12 tg_0 rv_0_0 d_X10_count_49 ?_
    refine j_geti fl_Main_336 tg_1 d_X10_count_52 ?_
    exact j_iret d_X10_count_55 rfl rfl ⟨rfl, rfl⟩
  refine tp_ite (fun h3 => ?_) (fun h3 => ?_)
  · refine j_tsin (tgt := 56) d_X10_count_1 (by omega) (by omega) (off := 55) (by rw [h3]; decide +kernel) (by decide) ?_
    refine j_aload_n rfl d_X10_count_56 rfl ?_
    refine j_geti fl_Main_86 tg_0 d_X10_count_57 ?_
    exact j_iret d_X10_count_60 rfl rfl ⟨rfl, rfl⟩
  refine tp_ite (fun h4 => ?_) (fun h4 => ?_)
  · refine j_tsin (tgt := 61) d_X10_count_1 (by omega) (by omega) (off := 60) (by rw [h4]; decide +kernel) (by decide) ?_
    refine j_aload_n rfl d_X10_count_61 rfl ?_
    refine j_bind (fun r5 h6 => ?_)
    refine j_callV (y := y_X10_slotsInUse) (I' := i_X10_slotsInUse) (avs := []) (c := 0) (st := []) (c_X10_slotsInUse G M0 r5 h6) cs_Main_339 wd_1010 wd_1012 ws_34 tg_0 rfl rfl rfl (Nat.le_of_ble_eq_true rfl) ⟨rfl, rfl⟩ ⟨by decide, by decide⟩ ⟨by decide, by decide⟩ d_X10_count_62 ?_
    exact j_iret d_X10_count_65 rfl rfl ⟨rfl, rfl⟩
  refine tp_ite (fun h7 => ?_) (fun h7 => ?_)
  · refine j_tsin (tgt := 66) d_X10_count_1 (by omega) (by omega) (off := 65) (by rw [h7]; decide +kernel) (by decide) ?_
    refine j_aload_n rfl d_X10_count_66 rfl ?_
    refine j_bind (fun r8 h9 => ?_)
    refine j_callV (y := y_X10_sheetsInUse) (I' := i_X10_sheetsInUse) (avs := []) (c := 0) (st := []) (c_X10_sheetsInUse G M0 r8 h9) cs_Main_342 wd_1014 wd_1016 ws_35 tg_0 rfl rfl rfl (Nat.le_of_ble_eq_true rfl) ⟨rfl, rfl⟩ ⟨by decide, by decide⟩ ⟨by decide, by decide⟩ d_X10_count_67 ?_
    exact j_iret d_X10_count_70 rfl rfl ⟨rfl, rfl⟩
  refine tp_ite (fun h10 => ?_) (fun h10 => ?_)
  · refine j_tsin (tgt := 71) d_X10_count_1 (by omega) (by omega) (off := 70) (by rw [h10]; decide +kernel) (by decide) ?_
    refine j_aload_n rfl d_X10_count_71 rfl ?_
    refine j_getr fl_Main_51 tg_0 rv_0_7 d_X10_count_72 ?_
    refine j_geti fl_Main_163 tg_41 d_X10_count_75 ?_
    refine j_if_eq (tgt := 85) d_X10_count_78 (by decide) (fun h11 => ?_) (fun h11 => ?_)
    · refine j_iconst ⟨by decide, by decide⟩ d_X10_count_85 ?_
      exact j_iret d_X10_count_86 rfl rfl ⟨rfl, rfl⟩
    · refine j_iconst ⟨by decide, by decide⟩ d_X10_count_81 ?_
      refine j_goto (tgt := 86) d_X10_count_82 (by decide) ?_
      exact j_iret d_X10_count_86 rfl rfl ⟨rfl, rfl⟩
  refine j_tsout (tgt := 87) d_X10_count_1 (by omega) (by decide) ?_
  refine j_iconst ⟨by decide, by decide⟩ d_X10_count_87 ?_
  exact j_iret d_X10_count_88 rfl rfl ⟨rfl, rfl⟩
set_option maxHeartbeats 4000000 in
set_option maxRecDepth 100000 in
theorem c_X10_count (G : tp_G) (a0 : Int) (M0 : tp_M) (r : Int) (h : f_X10_count a0 M0 = some r) (l : Launch) : Met l y_X10_count (tp_ws y_X10_count i_X10_count) (tp_rm 2) (tp_Pc G [.inr (.inr 0), .inl a0] tp_NC (tp_st M0)) (tp_Q G ((o_X10_count M0) r)) 0 0 (tp_A G) :=
  tp_met (I := i_X10_count) (y := y_X10_count) (by decide +kernel) (Eq.refl "TypesAtPrime") (Eq.refl "count") (lv := [some (.inr (.inr 0)), some (.inl a0)]) rfl (Nat.le_of_ble_eq_true rfl) (T_X10_count G a0 M0) h l
