theorem cs_Grower_62 : tp_CS "TypesAtPrime$Grower" 62 y_X9_fell i_X9_fell 0 := ⟨wd_461, wd_6, by decide, by decide, by decide +kernel⟩
theorem wd_640 : (.methodLink "TypesAtPrime$Grower" 62 ⟨"TypesAtPrime$Tree", "fell", "()V"⟩ : Cond) ∈ lw_tbl := List.mem_append_right _ (List.mem_of_getElem? (i := 640) (by decide +kernel))
theorem wd_291 : (.fieldLink "TypesAtPrime$Grower" 77 "TypesAtPrime$Tree" "degree" "I" : Cond) ∈ lw_tbl := List.mem_append_right _ (List.mem_of_getElem? (i := 291) (by decide +kernel))
theorem fl_Grower_77 : tp_F "TypesAtPrime$Grower" 77 9 1 0 := ⟨_, _, _, rfl, by decide, rfl, wd_291, rfl, by decide⟩
theorem wd_797 : (.code ⟨"TypesAtPrime$Tree", "spell", "()V"⟩ prog_11_method_13_code 3 (none : Option Jvm.ClassFile.FieldType) : Cond) ∈ lw_tbl := List.mem_append_right _ (List.mem_of_getElem? (i := 797) (by decide +kernel))
theorem cs_Grower_81 : tp_CS "TypesAtPrime$Grower" 81 y_X9_spell i_X9_spell 0 := ⟨wd_797, wd_6, by decide, by decide, by decide +kernel⟩
theorem wd_794 : (.methodLink "TypesAtPrime$Grower" 81 ⟨"TypesAtPrime$Tree", "spell", "()V"⟩ : Cond) ∈ lw_tbl := List.mem_append_right _ (List.mem_of_getElem? (i := 794) (by decide +kernel))
theorem wd_795 : (.instanceMethod ⟨"TypesAtPrime$Tree", "spell", "()V"⟩ : Cond) ∈ lw_tbl := List.mem_append_right _ (List.mem_of_getElem? (i := 795) (by decide +kernel))
theorem wd_796 : (.selects "TypesAtPrime$Tree" ⟨"TypesAtPrime$Tree", "spell", "()V"⟩ ⟨"TypesAtPrime$Tree", "spell", "()V"⟩ : Cond) ∈ lw_tbl := List.mem_append_right _ (List.mem_of_getElem? (i := 796) (by decide +kernel))
theorem wd_288 : (.fieldLink "TypesAtPrime$Grower" 84 "TypesAtPrime$Tree" "stands" "Z" : Cond) ∈ lw_tbl := List.mem_append_right _ (List.mem_of_getElem? (i := 288) (by decide +kernel))
theorem fl_Grower_84 : tp_F "TypesAtPrime$Grower" 84 9 0 0 := ⟨_, _, _, rfl, by decide, rfl, wd_288, rfl, by decide⟩
def y_X1_plant : MethodName := ⟨"TypesAtPrime$Grower", "plant", "([II)V"⟩
abbrev i_X1_plant : tp_I := (prog_3_method_2_code, "TypesAtPrime$Grower", none, 4, "plant")
abbrev o_X1_plant : tp_M → tp_O := fun r => (none, tp_NC, tp_st r)
theorem d_X1_plant_0 : decode prog_3_method_2_code 0 = .ok (.aload_n 0, 1) := by decide +kernel
theorem d_X1_plant_1 : decode prog_3_method_2_code 1 = .ok (.getfield 57, 3) := by decide +kernel
theorem d_X1_plant_4 : decode prog_3_method_2_code 4 = .ok (.invokevirtual 62, 3) := by decide +kernel
theorem d_X1_plant_7 : decode prog_3_method_2_code 7 = .ok (.iconst 0, 1) := by decide +kernel
theorem d_X1_plant_8 : decode prog_3_method_2_code 8 = .ok (.istore_n 3, 1) := by decide +kernel
theorem d_X1_plant_9 : decode prog_3_method_2_code 9 = .ok (.iload_n 3, 1) := by decide +kernel
theorem d_X1_plant_10 : decode prog_3_method_2_code 10 = .ok (.bipush 9, 2) := by decide +kernel
theorem d_X1_plant_12 : decode prog_3_method_2_code 12 = .ok (.if_icmp .ge 36, 3) := by decide +kernel
theorem d_X1_plant_15 : decode prog_3_method_2_code 15 = .ok (.aload_n 0, 1) := by decide +kernel
theorem d_X1_plant_16 : decode prog_3_method_2_code 16 = .ok (.getfield 24, 3) := by decide +kernel
theorem d_X1_plant_19 : decode prog_3_method_2_code 19 = .ok (.iload_n 3, 1) := by decide +kernel
theorem d_X1_plant_20 : decode prog_3_method_2_code 20 = .ok (.iload_n 3, 1) := by decide +kernel
theorem d_X1_plant_21 : decode prog_3_method_2_code 21 = .ok (.aload_n 1, 1) := by decide +kernel
theorem d_X1_plant_22 : decode prog_3_method_2_code 22 = .ok (.arraylength, 1) := by decide +kernel
theorem d_X1_plant_23 : decode prog_3_method_2_code 23 = .ok (.if_icmp .ge 17, 3) := by decide +kernel
theorem d_X1_plant_26 : decode prog_3_method_2_code 26 = .ok (.aload_n 0, 1) := by decide +kernel
theorem d_X1_plant_27 : decode prog_3_method_2_code 27 = .ok (.getfield 53, 3) := by decide +kernel
theorem d_X1_plant_30 : decode prog_3_method_2_code 30 = .ok (.aload_n 1, 1) := by decide +kernel
theorem d_X1_plant_31 : decode prog_3_method_2_code 31 = .ok (.iload_n 3, 1) := by decide +kernel
theorem d_X1_plant_32 : decode prog_3_method_2_code 32 = .ok (.iaload, 1) := by decide +kernel
theorem d_X1_plant_33 : decode prog_3_method_2_code 33 = .ok (.i2l, 1) := by decide +kernel
theorem d_X1_plant_34 : decode prog_3_method_2_code 34 = .ok (.invokevirtual 67, 3) := by decide +kernel
theorem d_X1_plant_37 : decode prog_3_method_2_code 37 = .ok (.goto 4, 3) := by decide +kernel
theorem d_X1_plant_40 : decode prog_3_method_2_code 40 = .ok (.lconst 0, 1) := by decide +kernel
theorem d_X1_plant_41 : decode prog_3_method_2_code 41 = .ok (.lastore, 1) := by decide +kernel
theorem d_X1_plant_42 : decode prog_3_method_2_code 42 = .ok (.iinc 3 1, 3) := by decide +kernel
theorem d_X1_plant_45 : decode prog_3_method_2_code 45 = .ok (.goto (-36), 3) := by decide +kernel
theorem d_X1_plant_48 : decode prog_3_method_2_code 48 = .ok (.aload_n 0, 1) := by decide +kernel
theorem d_X1_plant_49 : decode prog_3_method_2_code 49 = .ok (.iconst 0, 1) := by decide +kernel
theorem d_X1_plant_50 : decode prog_3_method_2_code 50 = .ok (.aload_n 1, 1) := by decide +kernel
theorem d_X1_plant_51 : decode prog_3_method_2_code 51 = .ok (.iconst 1, 1) := by decide +kernel
theorem d_X1_plant_52 : decode prog_3_method_2_code 52 = .ok (.bipush (-2), 2) := by decide +kernel
theorem d_X1_plant_54 : decode prog_3_method_2_code 54 = .ok (.invokevirtual 73, 3) := by decide +kernel
theorem d_X1_plant_57 : decode prog_3_method_2_code 57 = .ok (.aload_n 0, 1) := by decide +kernel
theorem d_X1_plant_58 : decode prog_3_method_2_code 58 = .ok (.getfield 57, 3) := by decide +kernel
theorem d_X1_plant_61 : decode prog_3_method_2_code 61 = .ok (.iload_n 2, 1) := by decide +kernel
theorem d_X1_plant_62 : decode prog_3_method_2_code 62 = .ok (.putfield 77, 3) := by decide +kernel
theorem d_X1_plant_65 : decode prog_3_method_2_code 65 = .ok (.aload_n 0, 1) := by decide +kernel
theorem d_X1_plant_66 : decode prog_3_method_2_code 66 = .ok (.getfield 57, 3) := by decide +kernel
theorem d_X1_plant_69 : decode prog_3_method_2_code 69 = .ok (.invokevirtual 81, 3) := by decide +kernel
theorem d_X1_plant_72 : decode prog_3_method_2_code 72 = .ok (.aload_n 0, 1) := by decide +kernel
theorem d_X1_plant_73 : decode prog_3_method_2_code 73 = .ok (.getfield 57, 3) := by decide +kernel
theorem d_X1_plant_76 : decode prog_3_method_2_code 76 = .ok (.iconst 1, 1) := by decide +kernel
theorem d_X1_plant_77 : decode prog_3_method_2_code 77 = .ok (.putfield 84, 3) := by decide +kernel
theorem d_X1_plant_80 : decode prog_3_method_2_code 80 = .ok (.return_, 1) := by decide +kernel
def f_X1_plant_41 (rec_9 : Int → tp_M → Option (tp_M)) (x1 : Int) (x2 : Int) (x3 : Int) (s0 : Int) (s1 : Int) (M0 : tp_M) : Option (tp_M) :=
  if 0 ≤ s1 ∧ s1 < 9 then
    tp_mp (tp_up M0 303 s1 s0) fun M12 =>
    tp_lt (tp_w (x3 + 1)) fun y13 =>
    rec_9 y13 M12 else none
set_option maxHeartbeats 4000000 in
set_option maxRecDepth 100000 in
theorem T_X1_plant_41 (G : tp_G) (rec_9 : Int → tp_M → Option (tp_M)) (x1 : Int) (x2 : Int) (x3 : Int) (s0 : Int) (s1 : Int) (M0 : tp_M) (hrec_9 : ∀ (x3' : Int) (M' : tp_M), tp_J i_X1_plant (tp_rm 113) G 0 0 o_X1_plant tp_NC (tp_st M') 0 0 [some (.inr (.inr 278)), some (.inr (.inr x1)), some (.inl x2), some (.inl (x3'))] 9 [] (rec_9 x3' M')) (hg_x1 : tp_tg x1 = 21) : tp_J i_X1_plant (tp_rm 113) G 0 0 o_X1_plant tp_NC (tp_st M0) 0 0 [some (.inr (.inr 278)), some (.inr (.inr x1)), some (.inl x2), some (.inl x3)] 41 [.inr (.inl s0), .inl s1, .inr (.inr 303)] (f_X1_plant_41 rec_9 x1 x2 x3 s0 s1 M0) := by
  unfold f_X1_plant_41
  refine j_last tg_303 al_303 d_X1_plant_41 (fun M12 hM12 => ?_)
  refine j_iincN (lv' := fun y13 => [some (.inr (.inr 278)), some (.inr (.inr x1)), some (.inl x2), some (.inl y13)]) d_X1_plant_42 rfl (Nat.le_of_ble_eq_true rfl) (fun _ => rfl) (fun y13 hy13 => ?_)
  refine j_goto (tgt := 9) d_X1_plant_45 (by decide) ?_
  exact j_wk [true, true, true, true] rfl rfl (hrec_9 y13 M12)
def f_X1_plant_9B (x1 : Int) (x2 : Int) (rec_9 : Int → tp_M → Option (tp_M)) (x3 : Int) (M0 : tp_M) : Option (tp_M) :=
  if 9 ≤ x3 then
    (f_X1_branch 0 x1 1 (-2) M0).bind fun r5 =>
    tp_mp (tp_up r5 41 1 x2) fun M7 =>
    (f_X9_spell M7).bind fun r8 =>
    tp_mp (tp_up r8 41 0 1) fun M10 =>
    some M10
  else
    if (tp_al x1) ≤ x3 then
      f_X1_plant_41 rec_9 x1 x2 x3 0 x3 M0
    else
      if 0 ≤ x3 ∧ x3 < tp_al x1 then
        (f_X4_rest (M0 x1 x3) M0).bind fun r14 =>
        f_X1_plant_41 rec_9 x1 x2 x3 r14 x3 M0 else none
set_option maxHeartbeats 4000000 in
set_option maxRecDepth 100000 in
theorem T_X1_plant_9B (G : tp_G) (x1 : Int) (x2 : Int) (hg_x1 : tp_tg x1 = 21) (rec_9 : Int → tp_M → Option (tp_M)) (hrec_9 : ∀ (x3' : Int) (M' : tp_M), tp_J i_X1_plant (tp_rm 113) G 0 0 o_X1_plant tp_NC (tp_st M') 0 0 [some (.inr (.inr 278)), some (.inr (.inr x1)), some (.inl x2), some (.inl (x3'))] 9 [] (rec_9 x3' M')) (x3 : Int) (M0 : tp_M) : tp_J i_X1_plant (tp_rm 113) G 0 0 o_X1_plant tp_NC (tp_st M0) 0 0 [some (.inr (.inr 278)), some (.inr (.inr x1)), some (.inl x2), some (.inl x3)] 9 [] (f_X1_plant_9B x1 x2 rec_9 x3 M0) := by
  unfold f_X1_plant_9B
  refine j_iload_n rfl d_X1_plant_9 rfl ?_
  refine j_bipush ⟨by decide, by decide⟩ (by decide +kernel) d_X1_plant_10 ?_
  refine j_icmp_ge (tgt := 48) d_X1_plant_12 (by decide) (fun h4 => ?_) (fun h4 => ?_)
  · refine j_aload_n rfl d_X1_plant_48 rfl ?_
    refine j_iconst ⟨by decide, by decide⟩ d_X1_plant_49 ?_
    refine j_aload_n rfl d_X1_plant_50 rfl ?_
    refine j_iconst ⟨by decide, by decide⟩ d_X1_plant_51 ?_
    refine j_bipush ⟨by decide, by decide⟩ (by decide +kernel) d_X1_plant_52 ?_
    refine j_bind (fun r5 h6 => ?_)
    refine j_callV (y := y_X1_branch) (I' := i_X1_branch) (avs := [.inl 0, .inr (.inr x1), .inl 1, .inl (-2)]) (c := 278) (st := []) (c_X1_branch G 0 x1 1 (-2) M0 r5 h6) cs_Grower_73 wd_642 wd_644 ws_17 tg_278 rfl rfl rfl (Nat.le_of_ble_eq_true rfl) ⟨rfl, rfl⟩ ⟨by decide, by decide⟩ ⟨by decide, by decide⟩ d_X1_plant_54 ?_
    refine j_aload_n rfl d_X1_plant_57 rfl ?_
    refine j_getr fl_Grower_57 tg_278 rv_278_1 d_X1_plant_58 ?_
    refine j_iload_n rfl d_X1_plant_61 rfl ?_
    refine j_put (z := 0) (v := x2) fl_Grower_77 (by decide) tg_41 (pf_9_1 _) pt_9 d_X1_plant_62 (fun M7 hM7 => ?_)
    refine j_aload_n rfl d_X1_plant_65 rfl ?_
    refine j_getr fl_Grower_57 tg_278 rv_278_1 d_X1_plant_66 ?_
    refine j_bind (fun r8 h9 => ?_)
    refine j_callV (y := y_X9_spell) (I' := i_X9_spell) (avs := []) (c := 41) (st := []) (c_X9_spell G M7 r8 h9) cs_Grower_81 wd_794 wd_795 wd_796 tg_41 rfl rfl rfl (Nat.le_of_ble_eq_true rfl) ⟨rfl, rfl⟩ ⟨by decide, by decide⟩ ⟨by decide, by decide⟩ d_X1_plant_69 ?_
    refine j_aload_n rfl d_X1_plant_72 rfl ?_
    refine j_getr fl_Grower_57 tg_278 rv_278_1 d_X1_plant_73 ?_
    refine j_iconst ⟨by decide, by decide⟩ d_X1_plant_76 ?_
    refine j_put (z := 0) (v := 1) fl_Grower_84 (by decide) tg_41 (pf_9_0 _ (Or.inr rfl)) pt_9 d_X1_plant_77 (fun M10 hM10 => ?_)
    exact j_vret d_X1_plant_80 rfl rfl ⟨rfl, rfl⟩
  · refine j_aload_n rfl d_X1_plant_15 rfl ?_
    refine j_getr fl_Grower_24 tg_278 rv_278_4 d_X1_plant_16 ?_
    refine j_iload_n rfl d_X1_plant_19 rfl ?_
    refine j_iload_n rfl d_X1_plant_20 rfl ?_
    refine j_aload_n rfl d_X1_plant_21 rfl ?_
    refine j_alen hg_x1 (by decide) rfl (tp_al_r _) (ty := .int) (by decide) d_X1_plant_22 ?_
    refine j_icmp_ge (tgt := 40) d_X1_plant_23 (by decide) (fun h11 => ?_) (fun h11 => ?_)
    · refine j_lconst (x := 0) ⟨by decide, by decide⟩ (by decide +kernel) d_X1_plant_40 ?_
      exact j_wk [true, true, true, true] rfl rfl (T_X1_plant_41 G rec_9 x1 x2 x3 0 x3 M0 hrec_9 hg_x1)
    · refine j_aload_n rfl d_X1_plant_26 rfl ?_
      refine j_getr fl_Grower_53 tg_278 rv_278_0 d_X1_plant_27 ?_
      refine j_aload_n rfl d_X1_plant_30 rfl ?_
      refine j_iload_n rfl d_X1_plant_31 rfl ?_
      refine j_iald hg_x1 rfl d_X1_plant_32 ?_
      refine j_i2l d_X1_plant_33 ?_
      refine j_bind (fun r14 h15 => ?_)
      refine j_callV (y := y_X4_rest) (I' := i_X4_rest) (avs := [.inr (.inl (M0 x1 x3))]) (c := 1) (st := [.inl x3, .inr (.inr 303)]) (c_X4_rest G (M0 x1 x3) M0 r14 h15) cs_Grower_67 wd_641 wd_562 wd_563 tg_1 rfl rfl rfl (Nat.le_of_ble_eq_true rfl) ⟨rfl, rfl⟩ ⟨by decide, by decide⟩ ⟨by decide, by decide⟩ d_X1_plant_34 ?_
      refine j_goto (tgt := 41) d_X1_plant_37 (by decide) ?_
      exact j_wk [true, true, true, true] rfl rfl (T_X1_plant_41 G rec_9 x1 x2 x3 r14 x3 M0 hrec_9 hg_x1)
def f_X1_plant_9 (x1 : Int) (x2 : Int) (x3 : Int) (M0 : tp_M) : Option (tp_M) := tp_lp (σ := Int × tp_M) (fun rec_ u => f_X1_plant_9B x1 x2 (fun x3' M0' => rec_ (x3', M0')) u.1 u.2) tp_N (x3, M0)
set_option maxHeartbeats 4000000 in
set_option maxRecDepth 100000 in
theorem T_X1_plant_9 (G : tp_G) (x1 : Int) (x2 : Int) (x3 : Int) (M0 : tp_M) (hg_x1 : tp_tg x1 = 21) : tp_J i_X1_plant (tp_rm 113) G 0 0 o_X1_plant tp_NC (tp_st M0) 0 0 [some (.inr (.inr 278)), some (.inr (.inr x1)), some (.inl x2), some (.inl x3)] 9 [] (f_X1_plant_9 x1 x2 x3 M0) := by
  unfold f_X1_plant_9
  exact j_lp (σ := Int × tp_M) (n' := fun _ => tp_NC) (g' := fun u => tp_st u.2) (k' := fun _ => 0) (q' := fun _ => 0) (lv' := fun u => [some (.inr (.inr 278)), some (.inr (.inr x1)), some (.inl x2), some (.inl u.1)]) (fun rec_ hrec u => T_X1_plant_9B G x1 x2 hg_x1 (fun x3' M0' => rec_ (x3', M0')) (fun x3' M0' => hrec (x3', M0')) u.1 u.2) tp_N (x3, M0)
def f_X1_plant (a0 : Int) (a1 : Int) (M0 : tp_M) : Option (tp_M) :=
  if tp_tg a0 = 21 then
    (f_X9_fell M0).bind fun r2 =>
    f_X1_plant_9 a0 a1 0 r2 else none
set_option maxHeartbeats 4000000 in
set_option maxRecDepth 100000 in
theorem T_X1_plant (G : tp_G) (a0 : Int) (a1 : Int) (M0 : tp_M) : tp_J i_X1_plant (tp_rm 113) G 0 0 o_X1_plant tp_NC (tp_st M0) 0 0 [some (.inr (.inr 278)), some (.inr (.inr a0)), some (.inl a1), none] 0 [] (f_X1_plant a0 a1 M0) := by
  unfold f_X1_plant
  refine tp_chk (fun ht1 => ?_)
  refine j_aload_n rfl d_X1_plant_0 rfl ?_
  refine j_getr fl_Grower_57 tg_278 rv_278_1 d_X1_plant_1 ?_
  refine j_bind (fun r2 h3 => ?_)
  refine j_callV (y := y_X9_fell) (I' := i_X9_fell) (avs := []) (c := 41) (st := []) (c_X9_fell G M0 r2 h3) cs_Grower_62 wd_640 wd_459 wd_460 tg_41 rfl rfl rfl (Nat.le_of_ble_eq_true rfl) ⟨rfl, rfl⟩ ⟨by decide, by decide⟩ ⟨by decide, by decide⟩ d_X1_plant_4 ?_
  refine j_iconst ⟨by decide, by decide⟩ d_X1_plant_7 ?_
  refine j_istore_n (lv' := [some (.inr (.inr 278)), some (.inr (.inr a0)), some (.inl a1), some (.inl 0)]) rfl d_X1_plant_8 (Nat.le_of_ble_eq_true rfl) rfl ?_
  exact j_wk [true, true, true, true] rfl rfl (T_X1_plant_9 G a0 a1 0 r2 ht1)
set_option maxHeartbeats 4000000 in
set_option maxRecDepth 100000 in
theorem c_X1_plant (G : tp_G) (a0 : Int) (a1 : Int) (M0 : tp_M) (r : tp_M) (h : f_X1_plant a0 a1 M0 = some r) (l : Launch) : Met l y_X1_plant (tp_ws y_X1_plant i_X1_plant) (tp_rm 113) (tp_Pc G [.inr (.inr 278), .inr (.inr a0), .inl a1] tp_NC (tp_st M0)) (tp_Q G (o_X1_plant r)) 0 0 (tp_A G) :=
  tp_met (I := i_X1_plant) (y := y_X1_plant) (by decide +kernel) (Eq.refl "TypesAtPrime$Grower") (Eq.refl "plant") (lv := [some (.inr (.inr 278)), some (.inr (.inr a0)), some (.inl a1), none]) rfl (Nat.le_of_ble_eq_true rfl) (T_X1_plant G a0 a1 M0) h l
theorem wd_417 : (.fieldLink "TypesAtPrime" 60 "TypesAtPrime" "grower" "LTypesAtPrime$Grower;" : Cond) ∈ lw_tbl := List.mem_append_right _ (List.mem_of_getElem? (i := 417) (by decide +kernel))
theorem fl_Main_60 : tp_F "TypesAtPrime" 60 10 8 2 := ⟨_, _, _, rfl, by decide, rfl, wd_417, rfl, by decide⟩
theorem rv_0_8 : tp_rv 0 8 = 278 := by decide +kernel
theorem wd_639 : (.code ⟨"TypesAtPrime$Grower", "plant", "([II)V"⟩ prog_3_method_2_code 4 (none : Option Jvm.ClassFile.FieldType) : Cond) ∈ lw_tbl := List.mem_append_right _ (List.mem_of_getElem? (i := 639) (by decide +kernel))
theorem cs_Main_156 : tp_CS "TypesAtPrime" 156 y_X1_plant i_X1_plant 2 := ⟨wd_639, wd_10, by decide, by decide, by decide +kernel⟩
theorem wd_636 : (.methodLink "TypesAtPrime" 156 ⟨"TypesAtPrime$Grower", "plant", "([II)V"⟩ : Cond) ∈ lw_tbl := List.mem_append_right _ (List.mem_of_getElem? (i := 636) (by decide +kernel))
theorem wd_637 : (.instanceMethod ⟨"TypesAtPrime$Grower", "plant", "([II)V"⟩ : Cond) ∈ lw_tbl := List.mem_append_right _ (List.mem_of_getElem? (i := 637) (by decide +kernel))
theorem wd_638 : (.selects "TypesAtPrime$Grower" ⟨"TypesAtPrime$Grower", "plant", "([II)V"⟩ ⟨"TypesAtPrime$Grower", "plant", "([II)V"⟩ : Cond) ∈ lw_tbl := List.mem_append_right _ (List.mem_of_getElem? (i := 638) (by decide +kernel))
def y_X10_grow : MethodName := ⟨"TypesAtPrime", "grow", "(I)I"⟩
abbrev i_X10_grow : tp_I := (prog_1_method_14_code, "TypesAtPrime", (some .int), 2, "grow")
abbrev o_X10_grow : Int × tp_M → tp_O := fun r => (some (.inl r.1), tp_NC, tp_st r.2)
theorem d_X10_grow_0 : decode prog_1_method_14_code 0 = .ok (.iload_n 1, 1) := by decide +kernel
theorem d_X10_grow_1 : decode prog_1_method_14_code 1 = .ok (.invokestatic 89, 3) := by decide +kernel
theorem d_X10_grow_4 : decode prog_1_method_14_code 4 = .ok (.ifCond .ne 5, 3) := by decide +kernel
theorem d_X10_grow_7 : decode prog_1_method_14_code 7 = .ok (.iconst (-1), 1) := by decide +kernel
theorem d_X10_grow_8 : decode prog_1_method_14_code 8 = .ok (.ireturn, 1) := by decide +kernel
theorem d_X10_grow_9 : decode prog_1_method_14_code 9 = .ok (.aload_n 0, 1) := by decide +kernel
theorem d_X10_grow_10 : decode prog_1_method_14_code 10 = .ok (.iload_n 1, 1) := by decide +kernel
theorem d_X10_grow_11 : decode prog_1_method_14_code 11 = .ok (.invokevirtual 115, 3) := by decide +kernel
theorem d_X10_grow_14 : decode prog_1_method_14_code 14 = .ok (.ifCond .ne 6, 3) := by decide +kernel
theorem d_X10_grow_17 : decode prog_1_method_14_code 17 = .ok (.bipush (-3), 2) := by decide +kernel
theorem d_X10_grow_19 : decode prog_1_method_14_code 19 = .ok (.ireturn, 1) := by decide +kernel
theorem d_X10_grow_20 : decode prog_1_method_14_code 20 = .ok (.aload_n 0, 1) := by decide +kernel
theorem d_X10_grow_21 : decode prog_1_method_14_code 21 = .ok (.getfield 60, 3) := by decide +kernel
theorem d_X10_grow_24 : decode prog_1_method_14_code 24 = .ok (.aload_n 0, 1) := by decide +kernel
theorem d_X10_grow_25 : decode prog_1_method_14_code 25 = .ok (.getfield 24, 3) := by decide +kernel
theorem d_X10_grow_28 : decode prog_1_method_14_code 28 = .ok (.iload_n 1, 1) := by decide +kernel
theorem d_X10_grow_29 : decode prog_1_method_14_code 29 = .ok (.aaload, 1) := by decide +kernel
theorem d_X10_grow_30 : decode prog_1_method_14_code 30 = .ok (.aload_n 0, 1) := by decide +kernel
theorem d_X10_grow_31 : decode prog_1_method_14_code 31 = .ok (.getfield 24, 3) := by decide +kernel
theorem d_X10_grow_34 : decode prog_1_method_14_code 34 = .ok (.iload_n 1, 1) := by decide +kernel
theorem d_X10_grow_35 : decode prog_1_method_14_code 35 = .ok (.aaload, 1) := by decide +kernel
theorem d_X10_grow_36 : decode prog_1_method_14_code 36 = .ok (.invokestatic 118, 3) := by decide +kernel
theorem d_X10_grow_39 : decode prog_1_method_14_code 39 = .ok (.invokevirtual 156, 3) := by decide +kernel
theorem d_X10_grow_42 : decode prog_1_method_14_code 42 = .ok (.aload_n 0, 1) := by decide +kernel
theorem d_X10_grow_43 : decode prog_1_method_14_code 43 = .ok (.getfield 51, 3) := by decide +kernel
theorem d_X10_grow_46 : decode prog_1_method_14_code 46 = .ok (.getfield 160, 3) := by decide +kernel
theorem d_X10_grow_49 : decode prog_1_method_14_code 49 = .ok (.ireturn, 1) := by decide +kernel
def f_X10_grow (a0 : Int) (M0 : tp_M) : Option (Int × tp_M) :=
  (f_X10_isSlot a0 M0).bind fun r1 =>
  if ¬ r1 = 0 then
    (f_X10_isMonic a0 M0).bind fun r4 =>
    if ¬ r4 = 0 then
      if 0 ≤ a0 ∧ a0 < 5 then
        if 0 ≤ a0 ∧ a0 < 5 then
          (f_X10_degreeOf (4 + a0) M0).bind fun r9 =>
          (f_X1_plant (4 + a0) r9 M0).bind fun r11 =>
          some ((r11 41 3), r11) else none else none
    else
      some ((-3), M0)
  else
    some ((-1), M0)
set_option maxHeartbeats 4000000 in
set_option maxRecDepth 100000 in
theorem T_X10_grow (G : tp_G) (a0 : Int) (M0 : tp_M) : tp_J i_X10_grow (tp_rm 114) G 0 0 o_X10_grow tp_NC (tp_st M0) 0 0 [some (.inr (.inr 0)), some (.inl a0)] 0 [] (f_X10_grow a0 M0) := by
  unfold f_X10_grow
  refine j_iload_n rfl d_X10_grow_0 rfl ?_
  refine j_bind (fun r1 h2 => ?_)
  refine j_callS (y := y_X10_isSlot) (I' := i_X10_isSlot) (avs := [.inl a0]) (st := []) (c_X10_isSlot G a0 M0 r1 h2) cs_Main_89 wd_474 wd_475 rfl rfl (Nat.le_of_ble_eq_true rfl) ⟨rfl, rfl⟩ ⟨by decide, by decide⟩ ⟨by decide, by decide⟩ d_X10_grow_1 ?_
  refine j_if_ne (tgt := 9) d_X10_grow_4 (by decide) (fun h3 => ?_) (fun h3 => ?_)
  · refine j_aload_n rfl d_X10_grow_9 rfl ?_
    refine j_iload_n rfl d_X10_grow_10 rfl ?_
    refine j_bind (fun r4 h5 => ?_)
    refine j_callV (y := y_X10_isMonic) (I' := i_X10_isMonic) (avs := [.inl a0]) (c := 0) (st := []) (c_X10_isMonic G a0 M0 r4 h5) cs_Main_115 wd_535 wd_537 ws_6 tg_0 rfl rfl rfl (Nat.le_of_ble_eq_true rfl) ⟨rfl, rfl⟩ ⟨by decide, by decide⟩ ⟨by decide, by decide⟩ d_X10_grow_11 ?_
    refine j_if_ne (tgt := 20) d_X10_grow_14 (by decide) (fun h6 => ?_) (fun h6 => ?_)
    · refine j_aload_n rfl d_X10_grow_20 rfl ?_
      refine j_getr fl_Main_60 tg_0 rv_0_8 d_X10_grow_21 ?_
      refine j_aload_n rfl d_X10_grow_24 rfl ?_
      refine j_getr fl_Main_24 tg_0 rv_0_3 d_X10_grow_25 ?_
      refine j_iload_n rfl d_X10_grow_28 rfl ?_
      refine j_aald (v := (4 + a0)) (ty := (.array .int)) tg_3 (by decide) al_3 (by decide) rfl d_X10_grow_29 (fun h1 h2 => (aa_3 _ h1 h2).1) (fun hi7 => ?_)
      refine j_aload_n rfl d_X10_grow_30 rfl ?_
      refine j_getr fl_Main_24 tg_0 rv_0_3 d_X10_grow_31 ?_
      refine j_iload_n rfl d_X10_grow_34 rfl ?_
      refine j_aald (v := (4 + a0)) (ty := (.array .int)) tg_3 (by decide) al_3 (by decide) rfl d_X10_grow_35 (fun h1 h2 => (aa_3 _ h1 h2).1) (fun hi8 => ?_)
      refine j_bind (fun r9 h10 => ?_)
      refine j_callS (y := y_X10_degreeOf) (I' := i_X10_degreeOf) (avs := [.inr (.inr (4 + a0))]) (st := [.inr (.inr (4 + a0)), .inr (.inr 278)]) (c_X10_degreeOf G (4 + a0) M0 r9 h10) cs_Main_118 wd_516 wd_517 rfl rfl (Nat.le_of_ble_eq_true rfl) ⟨rfl, rfl⟩ ⟨by decide, by decide⟩ ⟨by decide, by decide⟩ d_X10_grow_36 ?_
      refine j_bind (fun r11 h12 => ?_)
      refine j_callV (y := y_X1_plant) (I' := i_X1_plant) (avs := [.inr (.inr (4 + a0)), .inl r9]) (c := 278) (st := []) (c_X1_plant G (4 + a0) r9 M0 r11 h12) cs_Main_156 wd_636 wd_637 wd_638 tg_278 rfl rfl rfl (Nat.le_of_ble_eq_true rfl) ⟨rfl, rfl⟩ ⟨by decide, by decide⟩ ⟨by decide, by decide⟩ d_X10_grow_39 ?_
      refine j_aload_n rfl d_X10_grow_42 rfl ?_
      refine j_getr fl_Main_51 tg_0 rv_0_7 d_X10_grow_43 ?_
      refine j_geti fl_Main_160 tg_41 d_X10_grow_46 ?_
      exact j_iret d_X10_grow_49 rfl rfl ⟨rfl, rfl⟩
    · refine j_bipush ⟨by decide, by decide⟩ (by decide +kernel) d_X10_grow_17 ?_
      exact j_iret d_X10_grow_19 rfl rfl ⟨rfl, rfl⟩
  · refine j_iconst ⟨by decide, by decide⟩ d_X10_grow_7 ?_
    exact j_iret d_X10_grow_8 rfl rfl ⟨rfl, rfl⟩
set_option maxHeartbeats 4000000 in
set_option maxRecDepth 100000 in
theorem c_X10_grow (G : tp_G) (a0 : Int) (M0 : tp_M) (r : Int × tp_M) (h : f_X10_grow a0 M0 = some r) (l : Launch) : Met l y_X10_grow (tp_ws y_X10_grow i_X10_grow) (tp_rm 114) (tp_Pc G [.inr (.inr 0), .inl a0] tp_NC (tp_st M0)) (tp_Q G (o_X10_grow r)) 0 0 (tp_A G) :=
  tp_met (I := i_X10_grow) (y := y_X10_grow) (by decide +kernel) (Eq.refl "TypesAtPrime") (Eq.refl "grow") (lv := [some (.inr (.inr 0)), some (.inl a0)]) rfl (Nat.le_of_ble_eq_true rfl) (T_X10_grow G a0 M0) h l
