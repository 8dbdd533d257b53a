theorem wd_111 : (.fieldLink "TypesAtPrime$Factors" 51 "TypesAtPrime$Factors" "prime" "I" : Cond) ∈ lw_tbl := List.mem_append_right _ (List.mem_of_getElem? (i := 111) (by decide +kernel))
theorem fl_Factors_51 : tp_F "TypesAtPrime$Factors" 51 0 4 0 := ⟨_, _, _, rfl, by decide, rfl, wd_111, rfl, by decide⟩
def y_X0_residue : MethodName := ⟨"TypesAtPrime$Factors", "residue", "(I)I"⟩
abbrev i_X0_residue : tp_I := (prog_2_method_3_code, "TypesAtPrime$Factors", (some .int), 3, "residue")
abbrev o_X0_residue (M : tp_M) : Int → tp_O := fun r => (some (.inl r), tp_NC, tp_st M)
theorem d_X0_residue_0 : decode prog_2_method_3_code 0 = .ok (.aload_n 0, 1) := by decide +kernel
theorem d_X0_residue_1 : decode prog_2_method_3_code 1 = .ok (.getfield 51, 3) := by decide +kernel
theorem d_X0_residue_4 : decode prog_2_method_3_code 4 = .ok (.ifCond .gt 5, 3) := by decide +kernel
theorem d_X0_residue_7 : decode prog_2_method_3_code 7 = .ok (.iconst 0, 1) := by decide +kernel
theorem d_X0_residue_8 : decode prog_2_method_3_code 8 = .ok (.ireturn, 1) := by decide +kernel
theorem d_X0_residue_9 : decode prog_2_method_3_code 9 = .ok (.iload_n 1, 1) := by decide +kernel
theorem d_X0_residue_10 : decode prog_2_method_3_code 10 = .ok (.aload_n 0, 1) := by decide +kernel
theorem d_X0_residue_11 : decode prog_2_method_3_code 11 = .ok (.getfield 51, 3) := by decide +kernel
theorem d_X0_residue_14 : decode prog_2_method_3_code 14 = .ok (.irem, 1) := by decide +kernel
theorem d_X0_residue_15 : decode prog_2_method_3_code 15 = .ok (.istore_n 2, 1) := by decide +kernel
theorem d_X0_residue_16 : decode prog_2_method_3_code 16 = .ok (.iload_n 2, 1) := by decide +kernel
theorem d_X0_residue_17 : decode prog_2_method_3_code 17 = .ok (.ifCond .ge 12, 3) := by decide +kernel
theorem d_X0_residue_20 : decode prog_2_method_3_code 20 = .ok (.iload_n 2, 1) := by decide +kernel
theorem d_X0_residue_21 : decode prog_2_method_3_code 21 = .ok (.aload_n 0, 1) := by decide +kernel
theorem d_X0_residue_22 : decode prog_2_method_3_code 22 = .ok (.getfield 51, 3) := by decide +kernel
theorem d_X0_residue_25 : decode prog_2_method_3_code 25 = .ok (.iadd, 1) := by decide +kernel
theorem d_X0_residue_26 : decode prog_2_method_3_code 26 = .ok (.goto 4, 3) := by decide +kernel
theorem d_X0_residue_29 : decode prog_2_method_3_code 29 = .ok (.iload_n 2, 1) := by decide +kernel
theorem d_X0_residue_30 : decode prog_2_method_3_code 30 = .ok (.ireturn, 1) := by decide +kernel
def f_X0_residue (c0 : Int) (a0 : Int) (M0 : tp_M) : Option (Int) :=
  if tp_tg c0 = 0 then
    if 0 < (M0 c0 4) then
      if (M0 c0 4) = 0 then none else
        tp_lt ((Int.tmod a0 (M0 c0 4))) fun y3 =>
        if 0 ≤ y3 then
          some y3
        else
          some (tp_w (y3 + (M0 c0 4)))
    else
      some 0 else none
set_option maxHeartbeats 4000000 in
set_option maxRecDepth 100000 in
theorem T_X0_residue (G : tp_G) (c0 : Int) (a0 : Int) (M0 : tp_M) : tp_J i_X0_residue (tp_rm 0) G 0 0 (o_X0_residue M0) tp_NC (tp_st M0) 0 0 [some (.inr (.inr c0)), some (.inl a0), none] 0 [] (f_X0_residue c0 a0 M0) := by
  unfold f_X0_residue
  refine tp_chk (fun ht1 => ?_)
  refine j_aload_n rfl d_X0_residue_0 rfl ?_
  refine j_geti fl_Factors_51 ht1 d_X0_residue_1 ?_
  refine j_if_gt (tgt := 9) d_X0_residue_4 (by decide) (fun h2 => ?_) (fun h2 => ?_)
  · refine j_iload_n rfl d_X0_residue_9 rfl ?_
    refine j_aload_n rfl d_X0_residue_10 rfl ?_
    refine j_geti fl_Factors_51 ht1 d_X0_residue_11 ?_
    refine j_irem d_X0_residue_14 ?_
    refine j_nmI (fun y3 hy3 => ?_)
    refine j_istore_n (lv' := [some (.inr (.inr c0)), some (.inl a0), some (.inl y3)]) rfl d_X0_residue_15 (Nat.le_of_ble_eq_true rfl) rfl ?_
    refine j_iload_n rfl d_X0_residue_16 rfl ?_
    refine j_if_ge (tgt := 29) d_X0_residue_17 (by decide) (fun h4 => ?_) (fun h4 => ?_)
    · refine j_iload_n rfl d_X0_residue_29 rfl ?_
      exact j_iret d_X0_residue_30 rfl rfl ⟨rfl, rfl⟩
    · refine j_iload_n rfl d_X0_residue_20 rfl ?_
      refine j_aload_n rfl d_X0_residue_21 rfl ?_
      refine j_geti fl_Factors_51 ht1 d_X0_residue_22 ?_
      refine j_iadd d_X0_residue_25 ?_
      refine j_goto (tgt := 30) d_X0_residue_26 (by decide) ?_
      exact j_iret d_X0_residue_30 rfl rfl ⟨rfl, rfl⟩
  · refine j_iconst ⟨by decide, by decide⟩ d_X0_residue_7 ?_
    exact j_iret d_X0_residue_8 rfl rfl ⟨rfl, rfl⟩
set_option maxHeartbeats 4000000 in
set_option maxRecDepth 100000 in
theorem c_X0_residue (G : tp_G) (c0 : Int) (a0 : Int) (M0 : tp_M) (r : Int) (h : f_X0_residue c0 a0 M0 = some r) (l : Launch) : Met l y_X0_residue (tp_ws y_X0_residue i_X0_residue) (tp_rm 0) (tp_Pc G [.inr (.inr c0), .inl a0] tp_NC (tp_st M0)) (tp_Q G ((o_X0_residue M0) r)) 0 0 (tp_A G) :=
  tp_met (I := i_X0_residue) (y := y_X0_residue) (by decide +kernel) (Eq.refl "TypesAtPrime$Factors") (Eq.refl "residue") (lv := [some (.inr (.inr c0)), some (.inl a0), none]) rfl (Nat.le_of_ble_eq_true rfl) (T_X0_residue G c0 a0 M0) h l
def y_X10_degreeOf : MethodName := ⟨"TypesAtPrime", "degreeOf", "([I)I"⟩
abbrev i_X10_degreeOf : tp_I := (prog_1_method_37_code, "TypesAtPrime", (some .int), 2, "degreeOf")
abbrev o_X10_degreeOf (M : tp_M) : Int → tp_O := fun r => (some (.inl r), tp_NC, tp_st M)
theorem d_X10_degreeOf_0 : decode prog_1_method_37_code 0 = .ok (.aload_n 0, 1) := by decide +kernel
theorem d_X10_degreeOf_1 : decode prog_1_method_37_code 1 = .ok (.arraylength, 1) := by decide +kernel
theorem d_X10_degreeOf_2 : decode prog_1_method_37_code 2 = .ok (.iconst 1, 1) := by decide +kernel
theorem d_X10_degreeOf_3 : decode prog_1_method_37_code 3 = .ok (.isub, 1) := by decide +kernel
theorem d_X10_degreeOf_4 : decode prog_1_method_37_code 4 = .ok (.istore_n 1, 1) := by decide +kernel
theorem d_X10_degreeOf_5 : decode prog_1_method_37_code 5 = .ok (.iload_n 1, 1) := by decide +kernel
theorem d_X10_degreeOf_6 : decode prog_1_method_37_code 6 = .ok (.ifCond .lt 15, 3) := by decide +kernel
theorem d_X10_degreeOf_9 : decode prog_1_method_37_code 9 = .ok (.aload_n 0, 1) := by decide +kernel
theorem d_X10_degreeOf_10 : decode prog_1_method_37_code 10 = .ok (.iload_n 1, 1) := by decide +kernel
theorem d_X10_degreeOf_11 : decode prog_1_method_37_code 11 = .ok (.iaload, 1) := by decide +kernel
theorem d_X10_degreeOf_12 : decode prog_1_method_37_code 12 = .ok (.ifCond .ne 9, 3) := by decide +kernel
theorem d_X10_degreeOf_15 : decode prog_1_method_37_code 15 = .ok (.iinc 1 (-1), 3) := by decide +kernel
theorem d_X10_degreeOf_18 : decode prog_1_method_37_code 18 = .ok (.goto (-13), 3) := by decide +kernel
theorem d_X10_degreeOf_21 : decode prog_1_method_37_code 21 = .ok (.iload_n 1, 1) := by decide +kernel
theorem d_X10_degreeOf_22 : decode prog_1_method_37_code 22 = .ok (.ireturn, 1) := by decide +kernel
def f_X10_degreeOf_5B (x0 : Int) (M0 : tp_M) (rec_5 : Int → Option (Int)) (x1 : Int) : Option (Int) :=
  if x1 < 0 then
    some x1
  else
    if 0 ≤ x1 ∧ x1 < tp_al x0 then
      if ¬ (M0 x0 x1) = 0 then
        some x1
      else
        tp_lt (tp_w (x1 + (-1))) fun y5 =>
        rec_5 y5 else none
set_option maxHeartbeats 4000000 in
set_option maxRecDepth 100000 in
theorem T_X10_degreeOf_5B (G : tp_G) (x0 : Int) (M0 : tp_M) (hg_x0 : tp_tg x0 = 21) (rec_5 : Int → Option (Int)) (hrec_5 : ∀ (x1' : Int), tp_J i_X10_degreeOf (tp_rm 0) G 0 0 (o_X10_degreeOf M0) tp_NC (tp_st M0) 0 0 [some (.inr (.inr x0)), some (.inl (x1'))] 5 [] (rec_5 x1')) (x1 : Int) : tp_J i_X10_degreeOf (tp_rm 0) G 0 0 (o_X10_degreeOf M0) tp_NC (tp_st M0) 0 0 [some (.inr (.inr x0)), some (.inl x1)] 5 [] (f_X10_degreeOf_5B x0 M0 rec_5 x1) := by
  unfold f_X10_degreeOf_5B
  refine j_iload_n rfl d_X10_degreeOf_5 rfl ?_
  refine j_if_lt (tgt := 21) d_X10_degreeOf_6 (by decide) (fun h3 => ?_) (fun h3 => ?_)
  · refine j_iload_n rfl d_X10_degreeOf_21 rfl ?_
    exact j_iret d_X10_degreeOf_22 rfl rfl ⟨rfl, rfl⟩
  · refine j_aload_n rfl d_X10_degreeOf_9 rfl ?_
    refine j_iload_n rfl d_X10_degreeOf_10 rfl ?_
    refine j_iald hg_x0 rfl d_X10_degreeOf_11 ?_
    refine j_if_ne (tgt := 21) d_X10_degreeOf_12 (by decide) (fun h4 => ?_) (fun h4 => ?_)
    · refine j_iload_n rfl d_X10_degreeOf_21 rfl ?_
      exact j_iret d_X10_degreeOf_22 rfl rfl ⟨rfl, rfl⟩
    · refine j_iincN (lv' := fun y5 => [some (.inr (.inr x0)), some (.inl y5)]) d_X10_degreeOf_15 rfl (Nat.le_of_ble_eq_true rfl) (fun _ => rfl) (fun y5 hy5 => ?_)
      refine j_goto (tgt := 5) d_X10_degreeOf_18 (by decide) ?_
      exact j_wk [true, true] rfl rfl (hrec_5 y5)
def f_X10_degreeOf_5 (x0 : Int) (x1 : Int) (M0 : tp_M) : Option (Int) := tp_lp (σ := Int) (fun rec_ u => f_X10_degreeOf_5B x0 M0 (fun x1' => rec_ x1') u) tp_N x1
set_option maxHeartbeats 4000000 in
set_option maxRecDepth 100000 in
theorem T_X10_degreeOf_5 (G : tp_G) (x0 : Int) (x1 : Int) (M0 : tp_M) (hg_x0 : tp_tg x0 = 21) : tp_J i_X10_degreeOf (tp_rm 0) G 0 0 (o_X10_degreeOf M0) tp_NC (tp_st M0) 0 0 [some (.inr (.inr x0)), some (.inl x1)] 5 [] (f_X10_degreeOf_5 x0 x1 M0) := by
  unfold f_X10_degreeOf_5
  exact j_lp (σ := Int) (n' := fun _ => tp_NC) (g' := fun u => tp_st M0) (k' := fun _ => 0) (q' := fun _ => 0) (lv' := fun u => [some (.inr (.inr x0)), some (.inl u)]) (fun rec_ hrec u => T_X10_degreeOf_5B G x0 M0 hg_x0 (fun x1' => rec_ x1') (fun x1' => hrec x1') u) tp_N x1
def f_X10_degreeOf (a0 : Int) (M0 : tp_M) : Option (Int) :=
  if tp_tg a0 = 21 then
    tp_lt ((tp_w ((tp_al a0) - 1))) fun y2 =>
    f_X10_degreeOf_5 a0 y2 M0 else none
set_option maxHeartbeats 4000000 in
set_option maxRecDepth 100000 in
theorem T_X10_degreeOf (G : tp_G) (a0 : Int) (M0 : tp_M) : tp_J i_X10_degreeOf (tp_rm 0) G 0 0 (o_X10_degreeOf M0) tp_NC (tp_st M0) 0 0 [some (.inr (.inr a0)), none] 0 [] (f_X10_degreeOf a0 M0) := by
  unfold f_X10_degreeOf
  refine tp_chk (fun ht1 => ?_)
  refine j_aload_n rfl d_X10_degreeOf_0 rfl ?_
  refine j_alen ht1 (by decide) rfl (tp_al_r _) (ty := .int) (by decide) d_X10_degreeOf_1 ?_
  refine j_iconst ⟨by decide, by decide⟩ d_X10_degreeOf_2 ?_
  refine j_isub d_X10_degreeOf_3 ?_
  refine j_nmI (fun y2 hy2 => ?_)
  refine j_istore_n (lv' := [some (.inr (.inr a0)), some (.inl y2)]) rfl d_X10_degreeOf_4 (Nat.le_of_ble_eq_true rfl) rfl ?_
  exact j_wk [true, true] rfl rfl (T_X10_degreeOf_5 G a0 y2 M0 ht1)
set_option maxHeartbeats 4000000 in
set_option maxRecDepth 100000 in
theorem c_X10_degreeOf (G : tp_G) (a0 : Int) (M0 : tp_M) (r : Int) (h : f_X10_degreeOf a0 M0 = some r) (l : Launch) : Met l y_X10_degreeOf (tp_ws y_X10_degreeOf i_X10_degreeOf) (tp_rm 0) (tp_Pc G [.inr (.inr a0)] tp_NC (tp_st M0)) (tp_Q G ((o_X10_degreeOf M0) r)) 0 0 (tp_A G) :=
  tp_met (I := i_X10_degreeOf) (y := y_X10_degreeOf) (by decide +kernel) (Eq.refl "TypesAtPrime") (Eq.refl "degreeOf") (lv := [some (.inr (.inr a0)), none]) rfl (Nat.le_of_ble_eq_true rfl) (T_X10_degreeOf G a0 M0) h l
theorem wd_518 : (.code ⟨"TypesAtPrime", "degreeOf", "([I)I"⟩ prog_1_method_37_code 2 (some .int) : Cond) ∈ lw_tbl := List.mem_append_right _ (List.mem_of_getElem? (i := 518) (by decide +kernel))
theorem wd_1 : (.initialized "TypesAtPrime" : Cond) ∈ lw_tbl := List.mem_append_right _ (List.mem_of_getElem? (i := 1) (by decide +kernel))
theorem cs_Factors_58 : tp_CS "TypesAtPrime$Factors" 58 y_X10_degreeOf i_X10_degreeOf 1 := ⟨wd_518, wd_1, by decide, by decide, by decide +kernel⟩
theorem wd_517 : (.static ⟨"TypesAtPrime", "degreeOf", "([I)I"⟩ : Cond) ∈ lw_tbl := List.mem_append_right _ (List.mem_of_getElem? (i := 517) (by decide +kernel))
theorem wd_581 : (.code ⟨"TypesAtPrime$Factors", "residue", "(I)I"⟩ prog_2_method_3_code 3 (some .int) : Cond) ∈ lw_tbl := List.mem_append_right _ (List.mem_of_getElem? (i := 581) (by decide +kernel))
theorem wd_5 : (.initialized "TypesAtPrime$Factors" : Cond) ∈ lw_tbl := List.mem_append_right _ (List.mem_of_getElem? (i := 5) (by decide +kernel))
theorem cs_Factors_54 : tp_CS "TypesAtPrime$Factors" 54 y_X0_residue i_X0_residue 1 := ⟨wd_581, wd_5, by decide, by decide, by decide +kernel⟩
theorem wd_578 : (.methodLink "TypesAtPrime$Factors" 54 ⟨"TypesAtPrime$Factors", "residue", "(I)I"⟩ : Cond) ∈ lw_tbl := List.mem_append_right _ (List.mem_of_getElem? (i := 578) (by decide +kernel))
theorem wd_580 : (.instanceMethod ⟨"TypesAtPrime$Factors", "residue", "(I)I"⟩ : Cond) ∈ lw_tbl := List.mem_append_right _ (List.mem_of_getElem? (i := 580) (by decide +kernel))
theorem ws_7 : (.selects "TypesAtPrime$Factors" ⟨"TypesAtPrime$Factors", "residue", "(I)I"⟩ ⟨"TypesAtPrime$Factors", "residue", "(I)I"⟩ : Cond) ∈ lw_tbl := List.mem_append_left _ (List.mem_of_getElem? (i := 7) (by decide +kernel))
def y_X0_makeMonic : MethodName := ⟨"TypesAtPrime$Factors", "makeMonic", "([I)V"⟩
abbrev i_X0_makeMonic : tp_I := (prog_2_method_4_code, "TypesAtPrime$Factors", none, 5, "makeMonic")
abbrev o_X0_makeMonic : tp_M → tp_O := fun r => (none, tp_NC, tp_st r)
theorem d_X0_makeMonic_0 : decode prog_2_method_4_code 0 = .ok (.aload_n 1, 1) := by decide +kernel
theorem d_X0_makeMonic_1 : decode prog_2_method_4_code 1 = .ok (.invokestatic 58, 3) := by decide +kernel
theorem d_X0_makeMonic_4 : decode prog_2_method_4_code 4 = .ok (.istore_n 2, 1) := by decide +kernel
theorem d_X0_makeMonic_5 : decode prog_2_method_4_code 5 = .ok (.iload_n 2, 1) := by decide +kernel
theorem d_X0_makeMonic_6 : decode prog_2_method_4_code 6 = .ok (.ifCond .ge 4, 3) := by decide +kernel
theorem d_X0_makeMonic_9 : decode prog_2_method_4_code 9 = .ok (.return_, 1) := by decide +kernel
theorem d_X0_makeMonic_10 : decode prog_2_method_4_code 10 = .ok (.iconst 1, 1) := by decide +kernel
theorem d_X0_makeMonic_11 : decode prog_2_method_4_code 11 = .ok (.istore_n 3, 1) := by decide +kernel
theorem d_X0_makeMonic_12 : decode prog_2_method_4_code 12 = .ok (.iload_n 3, 1) := by decide +kernel
theorem d_X0_makeMonic_13 : decode prog_2_method_4_code 13 = .ok (.aload_n 0, 1) := by decide +kernel
theorem d_X0_makeMonic_14 : decode prog_2_method_4_code 14 = .ok (.getfield 51, 3) := by decide +kernel
theorem d_X0_makeMonic_17 : decode prog_2_method_4_code 17 = .ok (.if_icmp .ge 22, 3) := by decide +kernel
theorem d_X0_makeMonic_20 : decode prog_2_method_4_code 20 = .ok (.aload_n 0, 1) := by decide +kernel
theorem d_X0_makeMonic_21 : decode prog_2_method_4_code 21 = .ok (.iload_n 3, 1) := by decide +kernel
theorem d_X0_makeMonic_22 : decode prog_2_method_4_code 22 = .ok (.aload_n 1, 1) := by decide +kernel
theorem d_X0_makeMonic_23 : decode prog_2_method_4_code 23 = .ok (.iload_n 2, 1) := by decide +kernel
theorem d_X0_makeMonic_24 : decode prog_2_method_4_code 24 = .ok (.iaload, 1) := by decide +kernel
theorem d_X0_makeMonic_25 : decode prog_2_method_4_code 25 = .ok (.imul, 1) := by decide +kernel
theorem d_X0_makeMonic_26 : decode prog_2_method_4_code 26 = .ok (.invokevirtual 54, 3) := by decide +kernel
theorem d_X0_makeMonic_29 : decode prog_2_method_4_code 29 = .ok (.iconst 1, 1) := by decide +kernel
theorem d_X0_makeMonic_30 : decode prog_2_method_4_code 30 = .ok (.if_icmp .eq 9, 3) := by decide +kernel
theorem d_X0_makeMonic_33 : decode prog_2_method_4_code 33 = .ok (.iinc 3 1, 3) := by decide +kernel
theorem d_X0_makeMonic_36 : decode prog_2_method_4_code 36 = .ok (.goto (-24), 3) := by decide +kernel
theorem d_X0_makeMonic_39 : decode prog_2_method_4_code 39 = .ok (.iconst 0, 1) := by decide +kernel
theorem d_X0_makeMonic_40 : decode prog_2_method_4_code 40 = .ok (.istore 4, 2) := by decide +kernel
theorem d_X0_makeMonic_42 : decode prog_2_method_4_code 42 = .ok (.iload 4, 2) := by decide +kernel
theorem d_X0_makeMonic_44 : decode prog_2_method_4_code 44 = .ok (.iload_n 2, 1) := by decide +kernel
theorem d_X0_makeMonic_45 : decode prog_2_method_4_code 45 = .ok (.if_icmp .gt 23, 3) := by decide +kernel
theorem d_X0_makeMonic_48 : decode prog_2_method_4_code 48 = .ok (.aload_n 1, 1) := by decide +kernel
theorem d_X0_makeMonic_49 : decode prog_2_method_4_code 49 = .ok (.iload 4, 2) := by decide +kernel
theorem d_X0_makeMonic_51 : decode prog_2_method_4_code 51 = .ok (.aload_n 0, 1) := by decide +kernel
theorem d_X0_makeMonic_52 : decode prog_2_method_4_code 52 = .ok (.aload_n 1, 1) := by decide +kernel
theorem d_X0_makeMonic_53 : decode prog_2_method_4_code 53 = .ok (.iload 4, 2) := by decide +kernel
theorem d_X0_makeMonic_55 : decode prog_2_method_4_code 55 = .ok (.iaload, 1) := by decide +kernel
theorem d_X0_makeMonic_56 : decode prog_2_method_4_code 56 = .ok (.iload_n 3, 1) := by decide +kernel
theorem d_X0_makeMonic_57 : decode prog_2_method_4_code 57 = .ok (.imul, 1) := by decide +kernel
theorem d_X0_makeMonic_58 : decode prog_2_method_4_code 58 = .ok (.invokevirtual 54, 3) := by decide +kernel
theorem d_X0_makeMonic_61 : decode prog_2_method_4_code 61 = .ok (.iastore, 1) := by decide +kernel
theorem d_X0_makeMonic_62 : decode prog_2_method_4_code 62 = .ok (.iinc 4 1, 3) := by decide +kernel
theorem d_X0_makeMonic_65 : decode prog_2_method_4_code 65 = .ok (.goto (-23), 3) := by decide +kernel
theorem d_X0_makeMonic_68 : decode prog_2_method_4_code 68 = .ok (.return_, 1) := by decide +kernel
def f_X0_makeMonic_42B (x0 : Int) (x1 : Int) (x2 : Int) (x3 : Int) (rec_42 : Int → tp_M → Option (tp_M)) (x4 : Int) (M0 : tp_M) : Option (tp_M) :=
  if x2 < x4 then
    some M0
  else
    if 0 ≤ x4 ∧ x4 < tp_al x1 then
      (f_X0_residue x0 (tp_w ((M0 x1 x4) * x3)) M0).bind fun r8 =>
      if 0 ≤ x4 ∧ x4 < tp_al x1 then
        tp_mp (tp_up M0 x1 x4 r8) fun M10 =>
        tp_lt (tp_w (x4 + 1)) fun y11 =>
        rec_42 y11 M10 else none else none
set_option maxHeartbeats 4000000 in
set_option maxRecDepth 100000 in
theorem T_X0_makeMonic_42B (G : tp_G) (x0 : Int) (x1 : Int) (x2 : Int) (x3 : Int) (hg_x0 : tp_tg x0 = 0) (hg_x1 : tp_tg x1 = 21) (rec_42 : Int → tp_M → Option (tp_M)) (hrec_42 : ∀ (x4' : Int) (M' : tp_M), tp_J i_X0_makeMonic (tp_rm 1) G 0 0 o_X0_makeMonic tp_NC (tp_st M') 0 0 [some (.inr (.inr x0)), some (.inr (.inr x1)), some (.inl x2), some (.inl x3), some (.inl (x4'))] 42 [] (rec_42 x4' M')) (x4 : Int) (M0 : tp_M) : tp_J i_X0_makeMonic (tp_rm 1) G 0 0 o_X0_makeMonic tp_NC (tp_st M0) 0 0 [some (.inr (.inr x0)), some (.inr (.inr x1)), some (.inl x2), some (.inl x3), some (.inl x4)] 42 [] (f_X0_makeMonic_42B x0 x1 x2 x3 rec_42 x4 M0) := by
  unfold f_X0_makeMonic_42B
  refine j_iload d_X0_makeMonic_42 rfl ?_
  refine j_iload_n rfl d_X0_makeMonic_44 rfl ?_
  refine j_icmp_gt (tgt := 68) d_X0_makeMonic_45 (by decide) (fun h7 => ?_) (fun h7 => ?_)
  · exact j_vret d_X0_makeMonic_68 rfl rfl ⟨rfl, rfl⟩
  · refine j_aload_n rfl d_X0_makeMonic_48 rfl ?_
    refine j_iload d_X0_makeMonic_49 rfl ?_
    refine j_aload_n rfl d_X0_makeMonic_51 rfl ?_
    refine j_aload_n rfl d_X0_makeMonic_52 rfl ?_
    refine j_iload d_X0_makeMonic_53 rfl ?_
    refine j_iald hg_x1 rfl d_X0_makeMonic_55 ?_
    refine j_iload_n rfl d_X0_makeMonic_56 rfl ?_
    refine j_imul d_X0_makeMonic_57 ?_
    refine j_bind (fun r8 h9 => ?_)
    refine j_callV (y := y_X0_residue) (I' := i_X0_residue) (avs := [.inl (tp_w ((M0 x1 x4) * x3))]) (c := x0) (st := [.inl x4, .inr (.inr x1)]) (c_X0_residue G x0 (tp_w ((M0 x1 x4) * x3)) M0 r8 h9) cs_Factors_54 wd_578 wd_580 ws_7 hg_x0 rfl rfl rfl (Nat.le_of_ble_eq_true rfl) ⟨rfl, rfl⟩ ⟨by decide, by decide⟩ ⟨by decide, by decide⟩ d_X0_makeMonic_58 ?_
    refine j_iast hg_x1 rfl d_X0_makeMonic_61 (fun M10 hM10 => ?_)
    refine j_iincN (lv' := fun y11 => [some (.inr (.inr x0)), some (.inr (.inr x1)), some (.inl x2), some (.inl x3), some (.inl y11)]) d_X0_makeMonic_62 rfl (Nat.le_of_ble_eq_true rfl) (fun _ => rfl) (fun y11 hy11 => ?_)
    refine j_goto (tgt := 42) d_X0_makeMonic_65 (by decide) ?_
    exact j_wk [true, true, true, true, true] rfl rfl (hrec_42 y11 M10)
def f_X0_makeMonic_42 (x0 : Int) (x1 : Int) (x2 : Int) (x3 : Int) (x4 : Int) (M0 : tp_M) : Option (tp_M) := tp_lp (σ := Int × tp_M) (fun rec_ u => f_X0_makeMonic_42B x0 x1 x2 x3 (fun x4' M0' => rec_ (x4', M0')) u.1 u.2) tp_N (x4, M0)
set_option maxHeartbeats 4000000 in
set_option maxRecDepth 100000 in
theorem T_X0_makeMonic_42 (G : tp_G) (x0 : Int) (x1 : Int) (x2 : Int) (x3 : Int) (x4 : Int) (M0 : tp_M) (hg_x0 : tp_tg x0 = 0) (hg_x1 : tp_tg x1 = 21) : tp_J i_X0_makeMonic (tp_rm 1) G 0 0 o_X0_makeMonic tp_NC (tp_st M0) 0 0 [some (.inr (.inr x0)), some (.inr (.inr x1)), some (.inl x2), some (.inl x3), some (.inl x4)] 42 [] (f_X0_makeMonic_42 x0 x1 x2 x3 x4 M0) := by
  unfold f_X0_makeMonic_42
  exact j_lp (σ := Int × tp_M) (n' := fun _ => tp_NC) (g' := fun u => tp_st u.2) (k' := fun _ => 0) (q' := fun _ => 0) (lv' := fun u => [some (.inr (.inr x0)), some (.inr (.inr x1)), some (.inl x2), some (.inl x3), some (.inl u.1)]) (fun rec_ hrec u => T_X0_makeMonic_42B G x0 x1 x2 x3 hg_x0 hg_x1 (fun x4' M0' => rec_ (x4', M0')) (fun x4' M0' => hrec (x4', M0')) u.1 u.2) tp_N (x4, M0)
def f_X0_makeMonic_39 (x0 : Int) (x1 : Int) (x2 : Int) (x3 : Int) (M0 : tp_M) : Option (tp_M) :=
  f_X0_makeMonic_42 x0 x1 x2 x3 0 M0
set_option maxHeartbeats 4000000 in
set_option maxRecDepth 100000 in
theorem T_X0_makeMonic_39 (G : tp_G) (x0 : Int) (x1 : Int) (x2 : Int) (x3 : Int) (M0 : tp_M) (hg_x0 : tp_tg x0 = 0) (hg_x1 : tp_tg x1 = 21) : tp_J i_X0_makeMonic (tp_rm 1) G 0 0 o_X0_makeMonic tp_NC (tp_st M0) 0 0 [some (.inr (.inr x0)), some (.inr (.inr x1)), some (.inl x2), some (.inl x3), none] 39 [] (f_X0_makeMonic_39 x0 x1 x2 x3 M0) := by
  unfold f_X0_makeMonic_39
  refine j_iconst ⟨by decide, by decide⟩ d_X0_makeMonic_39 ?_
  refine j_istore (lv' := [some (.inr (.inr x0)), some (.inr (.inr x1)), some (.inl x2), some (.inl x3), some (.inl 0)]) d_X0_makeMonic_40 (Nat.le_of_ble_eq_true rfl) rfl ?_
  exact j_wk [true, true, true, true, true] rfl rfl (T_X0_makeMonic_42 G x0 x1 x2 x3 0 M0 hg_x0 hg_x1)
def f_X0_makeMonic_12B (x0 : Int) (x1 : Int) (x2 : Int) (M0 : tp_M) (rec_12 : Int → Option (tp_M)) (x3 : Int) : Option (tp_M) :=
  if (M0 x0 4) ≤ x3 then
    f_X0_makeMonic_39 x0 x1 x2 x3 M0
  else
    if 0 ≤ x2 ∧ x2 < tp_al x1 then
      (f_X0_residue x0 (tp_w (x3 * (M0 x1 x2))) M0).bind fun r12 =>
      if r12 = 1 then
        f_X0_makeMonic_39 x0 x1 x2 x3 M0
      else
        tp_lt (tp_w (x3 + 1)) fun y15 =>
        rec_12 y15 else none
set_option maxHeartbeats 4000000 in
set_option maxRecDepth 100000 in
theorem T_X0_makeMonic_12B (G : tp_G) (x0 : Int) (x1 : Int) (x2 : Int) (M0 : tp_M) (hg_x0 : tp_tg x0 = 0) (hg_x1 : tp_tg x1 = 21) (rec_12 : Int → Option (tp_M)) (hrec_12 : ∀ (x3' : Int), tp_J i_X0_makeMonic (tp_rm 1) G 0 0 o_X0_makeMonic tp_NC (tp_st M0) 0 0 [some (.inr (.inr x0)), some (.inr (.inr x1)), some (.inl x2), some (.inl (x3')), none] 12 [] (rec_12 x3')) (x3 : Int) : tp_J i_X0_makeMonic (tp_rm 1) G 0 0 o_X0_makeMonic tp_NC (tp_st M0) 0 0 [some (.inr (.inr x0)), some (.inr (.inr x1)), some (.inl x2), some (.inl x3), none] 12 [] (f_X0_makeMonic_12B x0 x1 x2 M0 rec_12 x3) := by
  unfold f_X0_makeMonic_12B
  refine j_iload_n rfl d_X0_makeMonic_12 rfl ?_
  refine j_aload_n rfl d_X0_makeMonic_13 rfl ?_
  refine j_geti fl_Factors_51 hg_x0 d_X0_makeMonic_14 ?_
  refine j_icmp_ge (tgt := 39) d_X0_makeMonic_17 (by decide) (fun h6 => ?_) (fun h6 => ?_)
  · exact j_wk [true, true, true, true, false] rfl rfl (T_X0_makeMonic_39 G x0 x1 x2 x3 M0 hg_x0 hg_x1)
  · refine j_aload_n rfl d_X0_makeMonic_20 rfl ?_
    refine j_iload_n rfl d_X0_makeMonic_21 rfl ?_
    refine j_aload_n rfl d_X0_makeMonic_22 rfl ?_
    refine j_iload_n rfl d_X0_makeMonic_23 rfl ?_
    refine j_iald hg_x1 rfl d_X0_makeMonic_24 ?_
    refine j_imul d_X0_makeMonic_25 ?_
    refine j_bind (fun r12 h13 => ?_)
    refine j_callV (y := y_X0_residue) (I' := i_X0_residue) (avs := [.inl (tp_w (x3 * (M0 x1 x2)))]) (c := x0) (st := []) (c_X0_residue G x0 (tp_w (x3 * (M0 x1 x2))) M0 r12 h13) cs_Factors_54 wd_578 wd_580 ws_7 hg_x0 rfl rfl rfl (Nat.le_of_ble_eq_true rfl) ⟨rfl, rfl⟩ ⟨by decide, by decide⟩ ⟨by decide, by decide⟩ d_X0_makeMonic_26 ?_
    refine j_iconst ⟨by decide, by decide⟩ d_X0_makeMonic_29 ?_
    refine j_icmp_eq (tgt := 39) d_X0_makeMonic_30 (by decide) (fun h14 => ?_) (fun h14 => ?_)
    · exact j_wk [true, true, true, true, false] rfl rfl (T_X0_makeMonic_39 G x0 x1 x2 x3 M0 hg_x0 hg_x1)
    · refine j_iincN (lv' := fun y15 => [some (.inr (.inr x0)), some (.inr (.inr x1)), some (.inl x2), some (.inl y15), none]) d_X0_makeMonic_33 rfl (Nat.le_of_ble_eq_true rfl) (fun _ => rfl) (fun y15 hy15 => ?_)
      refine j_goto (tgt := 12) d_X0_makeMonic_36 (by decide) ?_
      exact j_wk [true, true, true, true, false] rfl rfl (hrec_12 y15)
def f_X0_makeMonic_12 (x0 : Int) (x1 : Int) (x2 : Int) (x3 : Int) (M0 : tp_M) : Option (tp_M) := tp_lp (σ := Int) (fun rec_ u => f_X0_makeMonic_12B x0 x1 x2 M0 (fun x3' => rec_ x3') u) tp_N x3
set_option maxHeartbeats 4000000 in
set_option maxRecDepth 100000 in
theorem T_X0_makeMonic_12 (G : tp_G) (x0 : Int) (x1 : Int) (x2 : Int) (x3 : Int) (M0 : tp_M) (hg_x0 : tp_tg x0 = 0) (hg_x1 : tp_tg x1 = 21) : tp_J i_X0_makeMonic (tp_rm 1) G 0 0 o_X0_makeMonic tp_NC (tp_st M0) 0 0 [some (.inr (.inr x0)), some (.inr (.inr x1)), some (.inl x2), some (.inl x3), none] 12 [] (f_X0_makeMonic_12 x0 x1 x2 x3 M0) := by
  unfold f_X0_makeMonic_12
  exact j_lp (σ := Int) (n' := fun _ => tp_NC) (g' := fun u => tp_st M0) (k' := fun _ => 0) (q' := fun _ => 0) (lv' := fun u => [some (.inr (.inr x0)), some (.inr (.inr x1)), some (.inl x2), some (.inl u), none]) (fun rec_ hrec u => T_X0_makeMonic_12B G x0 x1 x2 M0 hg_x0 hg_x1 (fun x3' => rec_ x3') (fun x3' => hrec x3') u) tp_N x3
def f_X0_makeMonic (c0 : Int) (a0 : Int) (M0 : tp_M) : Option (tp_M) :=
  if tp_tg c0 = 0 then
    if tp_tg a0 = 21 then
      (f_X10_degreeOf a0 M0).bind fun r3 =>
      if 0 ≤ r3 then
        f_X0_makeMonic_12 c0 a0 r3 1 M0
      else
        some M0 else none else none
set_option maxHeartbeats 4000000 in
set_option maxRecDepth 100000 in
theorem T_X0_makeMonic (G : tp_G) (c0 : Int) (a0 : Int) (M0 : tp_M) : tp_J i_X0_makeMonic (tp_rm 1) G 0 0 o_X0_makeMonic tp_NC (tp_st M0) 0 0 [some (.inr (.inr c0)), some (.inr (.inr a0)), none, none, none] 0 [] (f_X0_makeMonic c0 a0 M0) := by
  unfold f_X0_makeMonic
  refine tp_chk (fun ht1 => ?_)
  refine tp_chk (fun ht2 => ?_)
  refine j_aload_n rfl d_X0_makeMonic_0 rfl ?_
  refine j_bind (fun r3 h4 => ?_)
  refine j_callSN (y := y_X10_degreeOf) (I' := i_X10_degreeOf) (avs := [.inr (.inr a0)]) (st := []) (c_X10_degreeOf G a0 M0 r3 h4) cs_Factors_58 (by decide +kernel : (.methodLinkNest "TypesAtPrime$Factors" 58 ⟨"TypesAtPrime", "degreeOf", "([I)I"⟩ "TypesAtPrime" : Cond) ∈ tp_nest) wd_517 rfl rfl (Nat.le_of_ble_eq_true rfl) ⟨rfl, rfl⟩ ⟨by decide, by decide⟩ ⟨by decide, by decide⟩ d_X0_makeMonic_1 ?_
  refine j_istore_n (lv' := [some (.inr (.inr c0)), some (.inr (.inr a0)), some (.inl r3), none, none]) rfl d_X0_makeMonic_4 (Nat.le_of_ble_eq_true rfl) rfl ?_
  refine j_iload_n rfl d_X0_makeMonic_5 rfl ?_
  refine j_if_ge (tgt := 10) d_X0_makeMonic_6 (by decide) (fun h5 => ?_) (fun h5 => ?_)
  · refine j_iconst ⟨by decide, by decide⟩ d_X0_makeMonic_10 ?_
    refine j_istore_n (lv' := [some (.inr (.inr c0)), some (.inr (.inr a0)), some (.inl r3), some (.inl 1), none]) rfl d_X0_makeMonic_11 (Nat.le_of_ble_eq_true rfl) rfl ?_
    exact j_wk [true, true, true, true, false] rfl rfl (T_X0_makeMonic_12 G c0 a0 r3 1 M0 ht1 ht2)
  · exact j_vret d_X0_makeMonic_9 rfl rfl ⟨rfl, rfl⟩
set_option maxHeartbeats 4000000 in
set_option maxRecDepth 100000 in
theorem c_X0_makeMonic (G : tp_G) (c0 : Int) (a0 : Int) (M0 : tp_M) (r : tp_M) (h : f_X0_makeMonic c0 a0 M0 = some r) (l : Launch) : Met l y_X0_makeMonic (tp_ws y_X0_makeMonic i_X0_makeMonic) (tp_rm 1) (tp_Pc G [.inr (.inr c0), .inr (.inr a0)] tp_NC (tp_st M0)) (tp_Q G (o_X0_makeMonic r)) 0 0 (tp_A G) :=
  tp_met (I := i_X0_makeMonic) (y := y_X0_makeMonic) (by decide +kernel) (Eq.refl "TypesAtPrime$Factors") (Eq.refl "makeMonic") (lv := [some (.inr (.inr c0)), some (.inr (.inr a0)), none, none, none]) rfl (Nat.le_of_ble_eq_true rfl) (T_X0_makeMonic G c0 a0 M0) h l
def y_J7_fill_53178 : MethodName := ⟨"java/util/Arrays", "fill", "([II)V"⟩
abbrev i_J7_fill_53178 : tp_I := (prog_19_method_103_code, "java/util/Arrays", none, 4, "fill")
abbrev o_J7_fill_53178 : tp_M → tp_O := fun r => (none, tp_NC, tp_st r)
theorem d_J7_fill_53178_0 : decode prog_19_method_103_code 0 = .ok (.iconst 0, 1) := by decide +kernel
theorem d_J7_fill_53178_1 : decode prog_19_method_103_code 1 = .ok (.istore_n 2, 1) := by decide +kernel
theorem d_J7_fill_53178_2 : decode prog_19_method_103_code 2 = .ok (.aload_n 0, 1) := by decide +kernel
theorem d_J7_fill_53178_3 : decode prog_19_method_103_code 3 = .ok (.arraylength, 1) := by decide +kernel
theorem d_J7_fill_53178_4 : decode prog_19_method_103_code 4 = .ok (.istore_n 3, 1) := by decide +kernel
theorem d_J7_fill_53178_5 : decode prog_19_method_103_code 5 = .ok (.iload_n 2, 1) := by decide +kernel
theorem d_J7_fill_53178_6 : decode prog_19_method_103_code 6 = .ok (.iload_n 3, 1) := by decide +kernel
theorem d_J7_fill_53178_7 : decode prog_19_method_103_code 7 = .ok (.if_icmp .ge 13, 3) := by decide +kernel
theorem d_J7_fill_53178_10 : decode prog_19_method_103_code 10 = .ok (.aload_n 0, 1) := by decide +kernel
theorem d_J7_fill_53178_11 : decode prog_19_method_103_code 11 = .ok (.iload_n 2, 1) := by decide +kernel
theorem d_J7_fill_53178_12 : decode prog_19_method_103_code 12 = .ok (.iload_n 1, 1) := by decide +kernel
theorem d_J7_fill_53178_13 : decode prog_19_method_103_code 13 = .ok (.iastore, 1) := by decide +kernel
theorem d_J7_fill_53178_14 : decode prog_19_method_103_code 14 = .ok (.iinc 2 1, 3) := by decide +kernel
theorem d_J7_fill_53178_17 : decode prog_19_method_103_code 17 = .ok (.goto (-12), 3) := by decide +kernel
theorem d_J7_fill_53178_20 : decode prog_19_method_103_code 20 = .ok (.return_, 1) := by decide +kernel
def f_J7_fill_53178_5B (x0 : Int) (x1 : Int) (x3 : Int) (rec_5 : Int → tp_M → Option (tp_M)) (x2 : Int) (M0 : tp_M) : Option (tp_M) :=
  if x3 ≤ x2 then
    some M0
  else
    if 0 ≤ x2 ∧ x2 < tp_al x0 then
      tp_mp (tp_up M0 x0 x2 x1) fun M4 =>
      tp_lt (tp_w (x2 + 1)) fun y5 =>
      rec_5 y5 M4 else none
set_option maxHeartbeats 4000000 in
set_option maxRecDepth 100000 in
theorem T_J7_fill_53178_5B (G : tp_G) (x0 : Int) (x1 : Int) (x3 : Int) (hg_x0 : tp_tg x0 = 21) (rec_5 : Int → tp_M → Option (tp_M)) (hrec_5 : ∀ (x2' : Int) (M' : tp_M), tp_J i_J7_fill_53178 (tp_rm 0) G 0 0 o_J7_fill_53178 tp_NC (tp_st M') 0 0 [some (.inr (.inr x0)), some (.inl x1), some (.inl (x2')), some (.inl x3)] 5 [] (rec_5 x2' M')) (x2 : Int) (M0 : tp_M) : tp_J i_J7_fill_53178 (tp_rm 0) G 0 0 o_J7_fill_53178 tp_NC (tp_st M0) 0 0 [some (.inr (.inr x0)), some (.inl x1), some (.inl x2), some (.inl x3)] 5 [] (f_J7_fill_53178_5B x0 x1 x3 rec_5 x2 M0) := by
  unfold f_J7_fill_53178_5B
  refine j_iload_n rfl d_J7_fill_53178_5 rfl ?_
  refine j_iload_n rfl d_J7_fill_53178_6 rfl ?_
  refine j_icmp_ge (tgt := 20) d_J7_fill_53178_7 (by decide) (fun h3 => ?_) (fun h3 => ?_)
  · exact j_vret d_J7_fill_53178_20 rfl rfl ⟨rfl, rfl⟩
  · refine j_aload_n rfl d_J7_fill_53178_10 rfl ?_
    refine j_iload_n rfl d_J7_fill_53178_11 rfl ?_
    refine j_iload_n rfl d_J7_fill_53178_12 rfl ?_
    refine j_iast hg_x0 rfl d_J7_fill_53178_13 (fun M4 hM4 => ?_)
    refine j_iincN (lv' := fun y5 => [some (.inr (.inr x0)), some (.inl x1), some (.inl y5), some (.inl x3)]) d_J7_fill_53178_14 rfl (Nat.le_of_ble_eq_true rfl) (fun _ => rfl) (fun y5 hy5 => ?_)
    refine j_goto (tgt := 5) d_J7_fill_53178_17 (by decide) ?_
    exact j_wk [true, true, true, true] rfl rfl (hrec_5 y5 M4)
def f_J7_fill_53178_5 (x0 : Int) (x1 : Int) (x2 : Int) (x3 : Int) (M0 : tp_M) : Option (tp_M) := tp_lp (σ := Int × tp_M) (fun rec_ u => f_J7_fill_53178_5B x0 x1 x3 (fun x2' M0' => rec_ (x2', M0')) u.1 u.2) tp_N (x2, M0)
set_option maxHeartbeats 4000000 in
set_option maxRecDepth 100000 in
theorem T_J7_fill_53178_5 (G : tp_G) (x0 : Int) (x1 : Int) (x2 : Int) (x3 : Int) (M0 : tp_M) (hg_x0 : tp_tg x0 = 21) : tp_J i_J7_fill_53178 (tp_rm 0) G 0 0 o_J7_fill_53178 tp_NC (tp_st M0) 0 0 [some (.inr (.inr x0)), some (.inl x1), some (.inl x2), some (.inl x3)] 5 [] (f_J7_fill_53178_5 x0 x1 x2 x3 M0) := by
  unfold f_J7_fill_53178_5
  exact j_lp (σ := Int × tp_M) (n' := fun _ => tp_NC) (g' := fun u => tp_st u.2) (k' := fun _ => 0) (q' := fun _ => 0) (lv' := fun u => [some (.inr (.inr x0)), some (.inl x1), some (.inl u.1), some (.inl x3)]) (fun rec_ hrec u => T_J7_fill_53178_5B G x0 x1 x3 hg_x0 (fun x2' M0' => rec_ (x2', M0')) (fun x2' M0' => hrec (x2', M0')) u.1 u.2) tp_N (x2, M0)
def f_J7_fill_53178 (a0 : Int) (a1 : Int) (M0 : tp_M) : Option (tp_M) :=
  if tp_tg a0 = 21 then
    tp_lt ((tp_al a0)) fun y2 =>
    f_J7_fill_53178_5 a0 a1 0 y2 M0 else none
set_option maxHeartbeats 4000000 in
set_option maxRecDepth 100000 in
theorem T_J7_fill_53178 (G : tp_G) (a0 : Int) (a1 : Int) (M0 : tp_M) : tp_J i_J7_fill_53178 (tp_rm 0) G 0 0 o_J7_fill_53178 tp_NC (tp_st M0) 0 0 [some (.inr (.inr a0)), some (.inl a1), none, none] 0 [] (f_J7_fill_53178 a0 a1 M0) := by
  unfold f_J7_fill_53178
  refine tp_chk (fun ht1 => ?_)
  refine j_iconst ⟨by decide, by decide⟩ d_J7_fill_53178_0 ?_
  refine j_istore_n (lv' := [some (.inr (.inr a0)), some (.inl a1), some (.inl 0), none]) rfl d_J7_fill_53178_1 (Nat.le_of_ble_eq_true rfl) rfl ?_
  refine j_aload_n rfl d_J7_fill_53178_2 rfl ?_
  refine j_alen ht1 (by decide) rfl (tp_al_r _) (ty := .int) (by decide) d_J7_fill_53178_3 ?_
  refine j_nmI (fun y2 hy2 => ?_)
  refine j_istore_n (lv' := [some (.inr (.inr a0)), some (.inl a1), some (.inl 0), some (.inl y2)]) rfl d_J7_fill_53178_4 (Nat.le_of_ble_eq_true rfl) rfl ?_
  exact j_wk [true, true, true, true] rfl rfl (T_J7_fill_53178_5 G a0 a1 0 y2 M0 ht1)
set_option maxHeartbeats 4000000 in
set_option maxRecDepth 100000 in
theorem c_J7_fill_53178 (G : tp_G) (a0 : Int) (a1 : Int) (M0 : tp_M) (r : tp_M) (h : f_J7_fill_53178 a0 a1 M0 = some r) (l : Launch) : Met l y_J7_fill_53178 (tp_ws y_J7_fill_53178 i_J7_fill_53178) (tp_rm 0) (tp_Pc G [.inr (.inr a0), .inl a1] tp_NC (tp_st M0)) (tp_Q G (o_J7_fill_53178 r)) 0 0 (tp_A G) :=
  tp_met (I := i_J7_fill_53178) (y := y_J7_fill_53178) (by decide +kernel) (Eq.refl "java/util/Arrays") (Eq.refl "fill") (lv := [some (.inr (.inr a0)), some (.inl a1), none, none]) rfl (Nat.le_of_ble_eq_true rfl) (T_J7_fill_53178 G a0 a1 M0) h l
def y_X0_divide : MethodName := ⟨"TypesAtPrime$Factors", "divide", "([I[II)V"⟩
abbrev i_X0_divide : tp_I := (prog_2_method_5_code, "TypesAtPrime$Factors", none, 8, "divide")
abbrev o_X0_divide : tp_M → tp_O := fun r => (none, tp_NC, tp_st r)
theorem d_X0_divide_0 : decode prog_2_method_5_code 0 = .ok (.iload_n 3, 1) := by decide +kernel
theorem d_X0_divide_1 : decode prog_2_method_5_code 1 = .ok (.ifCond .lt 16, 3) := by decide +kernel
theorem d_X0_divide_4 : decode prog_2_method_5_code 4 = .ok (.iload_n 3, 1) := by decide +kernel
theorem d_X0_divide_5 : decode prog_2_method_5_code 5 = .ok (.aload_n 2, 1) := by decide +kernel
theorem d_X0_divide_6 : decode prog_2_method_5_code 6 = .ok (.arraylength, 1) := by decide +kernel
theorem d_X0_divide_7 : decode prog_2_method_5_code 7 = .ok (.if_icmp .ge 10, 3) := by decide +kernel
theorem d_X0_divide_10 : decode prog_2_method_5_code 10 = .ok (.aload_n 0, 1) := by decide +kernel
theorem d_X0_divide_11 : decode prog_2_method_5_code 11 = .ok (.getfield 51, 3) := by decide +kernel
theorem d_X0_divide_14 : decode prog_2_method_5_code 14 = .ok (.ifCond .gt 4, 3) := by decide +kernel
theorem d_X0_divide_17 : decode prog_2_method_5_code 17 = .ok (.return_, 1) := by decide +kernel
theorem d_X0_divide_18 : decode prog_2_method_5_code 18 = .ok (.aload_n 1, 1) := by decide +kernel
theorem d_X0_divide_19 : decode prog_2_method_5_code 19 = .ok (.arraylength, 1) := by decide +kernel
theorem d_X0_divide_20 : decode prog_2_method_5_code 20 = .ok (.iconst 1, 1) := by decide +kernel
theorem d_X0_divide_21 : decode prog_2_method_5_code 21 = .ok (.isub, 1) := by decide +kernel
theorem d_X0_divide_22 : decode prog_2_method_5_code 22 = .ok (.istore 4, 2) := by decide +kernel
theorem d_X0_divide_24 : decode prog_2_method_5_code 24 = .ok (.iload 4, 2) := by decide +kernel
theorem d_X0_divide_26 : decode prog_2_method_5_code 26 = .ok (.iload_n 3, 1) := by decide +kernel
theorem d_X0_divide_27 : decode prog_2_method_5_code 27 = .ok (.if_icmp .lt 87, 3) := by decide +kernel
theorem d_X0_divide_30 : decode prog_2_method_5_code 30 = .ok (.iload 4, 2) := by decide +kernel
theorem d_X0_divide_32 : decode prog_2_method_5_code 32 = .ok (.iload_n 3, 1) := by decide +kernel
theorem d_X0_divide_33 : decode prog_2_method_5_code 33 = .ok (.isub, 1) := by decide +kernel
theorem d_X0_divide_34 : decode prog_2_method_5_code 34 = .ok (.istore 5, 2) := by decide +kernel
theorem d_X0_divide_36 : decode prog_2_method_5_code 36 = .ok (.aload_n 1, 1) := by decide +kernel
theorem d_X0_divide_37 : decode prog_2_method_5_code 37 = .ok (.iload 4, 2) := by decide +kernel
theorem d_X0_divide_39 : decode prog_2_method_5_code 39 = .ok (.iaload, 1) := by decide +kernel
theorem d_X0_divide_40 : decode prog_2_method_5_code 40 = .ok (.ifCond .ne 7, 3) := by decide +kernel
theorem d_X0_divide_43 : decode prog_2_method_5_code 43 = .ok (.iconst 0, 1) := by decide +kernel
theorem d_X0_divide_44 : decode prog_2_method_5_code 44 = .ok (.goto 12, 3) := by decide +kernel
theorem d_X0_divide_47 : decode prog_2_method_5_code 47 = .ok (.aload_n 0, 1) := by decide +kernel
theorem d_X0_divide_48 : decode prog_2_method_5_code 48 = .ok (.getfield 51, 3) := by decide +kernel
theorem d_X0_divide_51 : decode prog_2_method_5_code 51 = .ok (.aload_n 1, 1) := by decide +kernel
theorem d_X0_divide_52 : decode prog_2_method_5_code 52 = .ok (.iload 4, 2) := by decide +kernel
theorem d_X0_divide_54 : decode prog_2_method_5_code 54 = .ok (.iaload, 1) := by decide +kernel
theorem d_X0_divide_55 : decode prog_2_method_5_code 55 = .ok (.isub, 1) := by decide +kernel
theorem d_X0_divide_56 : decode prog_2_method_5_code 56 = .ok (.istore 6, 2) := by decide +kernel
theorem d_X0_divide_58 : decode prog_2_method_5_code 58 = .ok (.iload 6, 2) := by decide +kernel
theorem d_X0_divide_60 : decode prog_2_method_5_code 60 = .ok (.ifCond .ne 6, 3) := by decide +kernel
theorem d_X0_divide_63 : decode prog_2_method_5_code 63 = .ok (.goto 45, 3) := by decide +kernel
theorem d_X0_divide_66 : decode prog_2_method_5_code 66 = .ok (.iconst 0, 1) := by decide +kernel
theorem d_X0_divide_67 : decode prog_2_method_5_code 67 = .ok (.istore 7, 2) := by decide +kernel
theorem d_X0_divide_69 : decode prog_2_method_5_code 69 = .ok (.iload 7, 2) := by decide +kernel
theorem d_X0_divide_71 : decode prog_2_method_5_code 71 = .ok (.iload_n 3, 1) := by decide +kernel
theorem d_X0_divide_72 : decode prog_2_method_5_code 72 = .ok (.if_icmp .ge 36, 3) := by decide +kernel
theorem d_X0_divide_75 : decode prog_2_method_5_code 75 = .ok (.aload_n 1, 1) := by decide +kernel
theorem d_X0_divide_76 : decode prog_2_method_5_code 76 = .ok (.iload 5, 2) := by decide +kernel
theorem d_X0_divide_78 : decode prog_2_method_5_code 78 = .ok (.iload 7, 2) := by decide +kernel
theorem d_X0_divide_80 : decode prog_2_method_5_code 80 = .ok (.iadd, 1) := by decide +kernel
theorem d_X0_divide_81 : decode prog_2_method_5_code 81 = .ok (.aload_n 1, 1) := by decide +kernel
theorem d_X0_divide_82 : decode prog_2_method_5_code 82 = .ok (.iload 5, 2) := by decide +kernel
theorem d_X0_divide_84 : decode prog_2_method_5_code 84 = .ok (.iload 7, 2) := by decide +kernel
theorem d_X0_divide_86 : decode prog_2_method_5_code 86 = .ok (.iadd, 1) := by decide +kernel
theorem d_X0_divide_87 : decode prog_2_method_5_code 87 = .ok (.iaload, 1) := by decide +kernel
theorem d_X0_divide_88 : decode prog_2_method_5_code 88 = .ok (.iload 6, 2) := by decide +kernel
theorem d_X0_divide_90 : decode prog_2_method_5_code 90 = .ok (.aload_n 2, 1) := by decide +kernel
theorem d_X0_divide_91 : decode prog_2_method_5_code 91 = .ok (.iload 7, 2) := by decide +kernel
theorem d_X0_divide_93 : decode prog_2_method_5_code 93 = .ok (.iaload, 1) := by decide +kernel
theorem d_X0_divide_94 : decode prog_2_method_5_code 94 = .ok (.imul, 1) := by decide +kernel
theorem d_X0_divide_95 : decode prog_2_method_5_code 95 = .ok (.iadd, 1) := by decide +kernel
theorem d_X0_divide_96 : decode prog_2_method_5_code 96 = .ok (.aload_n 0, 1) := by decide +kernel
theorem d_X0_divide_97 : decode prog_2_method_5_code 97 = .ok (.getfield 51, 3) := by decide +kernel
theorem d_X0_divide_100 : decode prog_2_method_5_code 100 = .ok (.irem, 1) := by decide +kernel
theorem d_X0_divide_101 : decode prog_2_method_5_code 101 = .ok (.iastore, 1) := by decide +kernel
theorem d_X0_divide_102 : decode prog_2_method_5_code 102 = .ok (.iinc 7 1, 3) := by decide +kernel
theorem d_X0_divide_105 : decode prog_2_method_5_code 105 = .ok (.goto (-36), 3) := by decide +kernel
theorem d_X0_divide_108 : decode prog_2_method_5_code 108 = .ok (.iinc 4 (-1), 3) := by decide +kernel
theorem d_X0_divide_111 : decode prog_2_method_5_code 111 = .ok (.goto (-87), 3) := by decide +kernel
theorem d_X0_divide_114 : decode prog_2_method_5_code 114 = .ok (.return_, 1) := by decide +kernel
def f_X0_divide_108 (rec_24 : Int → tp_M → Option (tp_M)) (x0 : Int) (x1 : Int) (x2 : Int) (x3 : Int) (x4 : Int) (M0 : tp_M) : Option (tp_M) :=
  tp_lt (tp_w (x4 + (-1))) fun y13 =>
  rec_24 y13 M0
set_option maxHeartbeats 4000000 in
set_option maxRecDepth 100000 in
theorem T_X0_divide_108 (G : tp_G) (rec_24 : Int → tp_M → Option (tp_M)) (x0 : Int) (x1 : Int) (x2 : Int) (x3 : Int) (x4 : Int) (M0 : tp_M) (hrec_24 : ∀ (x4' : Int) (M' : tp_M), tp_J i_X0_divide (tp_rm 0) G 0 0 o_X0_divide tp_NC (tp_st M') 0 0 [some (.inr (.inr x0)), some (.inr (.inr x1)), some (.inr (.inr x2)), some (.inl x3), some (.inl (x4')), none, none, none] 24 [] (rec_24 x4' M')) (hg_x0 : tp_tg x0 = 0) (hg_x1 : tp_tg x1 = 21) (hg_x2 : tp_tg x2 = 21) : tp_J i_X0_divide (tp_rm 0) G 0 0 o_X0_divide tp_NC (tp_st M0) 0 0 [some (.inr (.inr x0)), some (.inr (.inr x1)), some (.inr (.inr x2)), some (.inl x3), some (.inl x4), none, none, none] 108 [] (f_X0_divide_108 rec_24 x0 x1 x2 x3 x4 M0) := by
  unfold f_X0_divide_108
  refine j_iincN (lv' := fun y13 => [some (.inr (.inr x0)), some (.inr (.inr x1)), some (.inr (.inr x2)), some (.inl x3), some (.inl y13), none, none, none]) d_X0_divide_108 rfl (Nat.le_of_ble_eq_true rfl) (fun _ => rfl) (fun y13 hy13 => ?_)
  refine j_goto (tgt := 24) d_X0_divide_111 (by decide) ?_
  exact j_wk [true, true, true, true, true, false, false, false] rfl rfl (hrec_24 y13 M0)
def f_X0_divide_69B (rec_24 : Int → tp_M → Option (tp_M)) (x0 : Int) (x1 : Int) (x2 : Int) (x3 : Int) (x4 : Int) (x5 : Int) (x6 : Int) (rec_69 : Int → tp_M → Option (tp_M)) (x7 : Int) (M0 : tp_M) : Option (tp_M) :=
  if x3 ≤ x7 then
    f_X0_divide_108 rec_24 x0 x1 x2 x3 x4 M0
  else
    if 0 ≤ (tp_w (x5 + x7)) ∧ (tp_w (x5 + x7)) < tp_al x1 then
      if 0 ≤ x7 ∧ x7 < tp_al x2 then
        if (M0 x0 4) = 0 then none else
          if 0 ≤ (tp_w (x5 + x7)) ∧ (tp_w (x5 + x7)) < tp_al x1 then
            tp_mp (tp_up M0 x1 (tp_w (x5 + x7)) (Int.tmod (tp_w ((M0 x1 (tp_w (x5 + x7))) + (tp_w (x6 * (M0 x2 x7))))) (M0 x0 4))) fun M14 =>
            tp_lt (tp_w (x7 + 1)) fun y15 =>
            rec_69 y15 M14 else none else none else none
set_option maxHeartbeats 4000000 in
set_option maxRecDepth 100000 in
theorem T_X0_divide_69B (G : tp_G) (rec_24 : Int → tp_M → Option (tp_M)) (x0 : Int) (x1 : Int) (x2 : Int) (x3 : Int) (x4 : Int) (x5 : Int) (x6 : Int) (hrec_24 : ∀ (x4' : Int) (M' : tp_M), tp_J i_X0_divide (tp_rm 0) G 0 0 o_X0_divide tp_NC (tp_st M') 0 0 [some (.inr (.inr x0)), some (.inr (.inr x1)), some (.inr (.inr x2)), some (.inl x3), some (.inl (x4')), none, none, none] 24 [] (rec_24 x4' M')) (hg_x0 : tp_tg x0 = 0) (hg_x1 : tp_tg x1 = 21) (hg_x2 : tp_tg x2 = 21) (rec_69 : Int → tp_M → Option (tp_M)) (hrec_69 : ∀ (x7' : Int) (M' : tp_M), tp_J i_X0_divide (tp_rm 0) G 0 0 o_X0_divide tp_NC (tp_st M') 0 0 [some (.inr (.inr x0)), some (.inr (.inr x1)), some (.inr (.inr x2)), some (.inl x3), some (.inl x4), some (.inl x5), some (.inl x6), some (.inl (x7'))] 69 [] (rec_69 x7' M')) (x7 : Int) (M0 : tp_M) : tp_J i_X0_divide (tp_rm 0) G 0 0 o_X0_divide tp_NC (tp_st M0) 0 0 [some (.inr (.inr x0)), some (.inr (.inr x1)), some (.inr (.inr x2)), some (.inl x3), some (.inl x4), some (.inl x5), some (.inl x6), some (.inl x7)] 69 [] (f_X0_divide_69B rec_24 x0 x1 x2 x3 x4 x5 x6 rec_69 x7 M0) := by
  unfold f_X0_divide_69B
  refine j_iload d_X0_divide_69 rfl ?_
  refine j_iload_n rfl d_X0_divide_71 rfl ?_
  refine j_icmp_ge (tgt := 108) d_X0_divide_72 (by decide) (fun h12 => ?_) (fun h12 => ?_)
  · exact j_wk [true, true, true, true, true, false, false, false] rfl rfl (T_X0_divide_108 G rec_24 x0 x1 x2 x3 x4 M0 hrec_24 hg_x0 hg_x1 hg_x2)
  · refine j_aload_n rfl d_X0_divide_75 rfl ?_
    refine j_iload d_X0_divide_76 rfl ?_
    refine j_iload d_X0_divide_78 rfl ?_
    refine j_iadd d_X0_divide_80 ?_
    refine j_aload_n rfl d_X0_divide_81 rfl ?_
    refine j_iload d_X0_divide_82 rfl ?_
    refine j_iload d_X0_divide_84 rfl ?_
    refine j_iadd d_X0_divide_86 ?_
    refine j_iald hg_x1 rfl d_X0_divide_87 ?_
    refine j_iload d_X0_divide_88 rfl ?_
    refine j_aload_n rfl d_X0_divide_90 rfl ?_
    refine j_iload d_X0_divide_91 rfl ?_
    refine j_iald hg_x2 rfl d_X0_divide_93 ?_
    refine j_imul d_X0_divide_94 ?_
    refine j_iadd d_X0_divide_95 ?_
    refine j_aload_n rfl d_X0_divide_96 rfl ?_
    refine j_geti fl_Factors_51 hg_x0 d_X0_divide_97 ?_
    refine j_irem d_X0_divide_100 ?_
    refine j_iast hg_x1 rfl d_X0_divide_101 (fun M14 hM14 => ?_)
    refine j_iincN (lv' := fun y15 => [some (.inr (.inr x0)), some (.inr (.inr x1)), some (.inr (.inr x2)), some (.inl x3), some (.inl x4), some (.inl x5), some (.inl x6), some (.inl y15)]) d_X0_divide_102 rfl (Nat.le_of_ble_eq_true rfl) (fun _ => rfl) (fun y15 hy15 => ?_)
    refine j_goto (tgt := 69) d_X0_divide_105 (by decide) ?_
    exact j_wk [true, true, true, true, true, true, true, true] rfl rfl (hrec_69 y15 M14)
def f_X0_divide_69 (rec_24 : Int → tp_M → Option (tp_M)) (x0 : Int) (x1 : Int) (x2 : Int) (x3 : Int) (x4 : Int) (x5 : Int) (x6 : Int) (x7 : Int) (M0 : tp_M) : Option (tp_M) := tp_lp (σ := Int × tp_M) (fun rec_ u => f_X0_divide_69B rec_24 x0 x1 x2 x3 x4 x5 x6 (fun x7' M0' => rec_ (x7', M0')) u.1 u.2) tp_N (x7, M0)
set_option maxHeartbeats 4000000 in
set_option maxRecDepth 100000 in
theorem T_X0_divide_69 (G : tp_G) (rec_24 : Int → tp_M → Option (tp_M)) (x0 : Int) (x1 : Int) (x2 : Int) (x3 : Int) (x4 : Int) (x5 : Int) (x6 : Int) (x7 : Int) (M0 : tp_M) (hrec_24 : ∀ (x4' : Int) (M' : tp_M), tp_J i_X0_divide (tp_rm 0) G 0 0 o_X0_divide tp_NC (tp_st M') 0 0 [some (.inr (.inr x0)), some (.inr (.inr x1)), some (.inr (.inr x2)), some (.inl x3), some (.inl (x4')), none, none, none] 24 [] (rec_24 x4' M')) (hg_x0 : tp_tg x0 = 0) (hg_x1 : tp_tg x1 = 21) (hg_x2 : tp_tg x2 = 21) : tp_J i_X0_divide (tp_rm 0) G 0 0 o_X0_divide tp_NC (tp_st M0) 0 0 [some (.inr (.inr x0)), some (.inr (.inr x1)), some (.inr (.inr x2)), some (.inl x3), some (.inl x4), some (.inl x5), some (.inl x6), some (.inl x7)] 69 [] (f_X0_divide_69 rec_24 x0 x1 x2 x3 x4 x5 x6 x7 M0) := by
  unfold f_X0_divide_69
  exact j_lp (σ := Int × tp_M) (n' := fun _ => tp_NC) (g' := fun u => tp_st u.2) (k' := fun _ => 0) (q' := fun _ => 0) (lv' := fun u => [some (.inr (.inr x0)), some (.inr (.inr x1)), some (.inr (.inr x2)), some (.inl x3), some (.inl x4), some (.inl x5), some (.inl x6), some (.inl u.1)]) (fun rec_ hrec u => T_X0_divide_69B G rec_24 x0 x1 x2 x3 x4 x5 x6 hrec_24 hg_x0 hg_x1 hg_x2 (fun x7' M0' => rec_ (x7', M0')) (fun x7' M0' => hrec (x7', M0')) u.1 u.2) tp_N (x7, M0)
def f_X0_divide_56 (rec_24 : Int → tp_M → Option (tp_M)) (x0 : Int) (x1 : Int) (x2 : Int) (x3 : Int) (x4 : Int) (x5 : Int) (s0 : Int) (M0 : tp_M) : Option (tp_M) :=
  if ¬ s0 = 0 then
    f_X0_divide_69 rec_24 x0 x1 x2 x3 x4 x5 s0 0 M0
  else
    f_X0_divide_108 rec_24 x0 x1 x2 x3 x4 M0
set_option maxHeartbeats 4000000 in
set_option maxRecDepth 100000 in
theorem T_X0_divide_56 (G : tp_G) (rec_24 : Int → tp_M → Option (tp_M)) (x0 : Int) (x1 : Int) (x2 : Int) (x3 : Int) (x4 : Int) (x5 : Int) (s0 : Int) (M0 : tp_M) (hrec_24 : ∀ (x4' : Int) (M' : tp_M), tp_J i_X0_divide (tp_rm 0) G 0 0 o_X0_divide tp_NC (tp_st M') 0 0 [some (.inr (.inr x0)), some (.inr (.inr x1)), some (.inr (.inr x2)), some (.inl x3), some (.inl (x4')), none, none, none] 24 [] (rec_24 x4' M')) (hg_x0 : tp_tg x0 = 0) (hg_x1 : tp_tg x1 = 21) (hg_x2 : tp_tg x2 = 21) : tp_J i_X0_divide (tp_rm 0) G 0 0 o_X0_divide tp_NC (tp_st M0) 0 0 [some (.inr (.inr x0)), some (.inr (.inr x1)), some (.inr (.inr x2)), some (.inl x3), some (.inl x4), some (.inl x5), none, none] 56 [.inl s0] (f_X0_divide_56 rec_24 x0 x1 x2 x3 x4 x5 s0 M0) := by
  unfold f_X0_divide_56
  refine j_istore (lv' := [some (.inr (.inr x0)), some (.inr (.inr x1)), some (.inr (.inr x2)), some (.inl x3), some (.inl x4), some (.inl x5), some (.inl s0), none]) d_X0_divide_56 (Nat.le_of_ble_eq_true rfl) rfl ?_
  refine j_iload d_X0_divide_58 rfl ?_
  refine j_if_ne (tgt := 66) d_X0_divide_60 (by decide) (fun h11 => ?_) (fun h11 => ?_)
  · refine j_iconst ⟨by decide, by decide⟩ d_X0_divide_66 ?_
    refine j_istore (lv' := [some (.inr (.inr x0)), some (.inr (.inr x1)), some (.inr (.inr x2)), some (.inl x3), some (.inl x4), some (.inl x5), some (.inl s0), some (.inl 0)]) d_X0_divide_67 (Nat.le_of_ble_eq_true rfl) rfl ?_
    exact j_wk [true, true, true, true, true, true, true, true] rfl rfl (T_X0_divide_69 G rec_24 x0 x1 x2 x3 x4 x5 s0 0 M0 hrec_24 hg_x0 hg_x1 hg_x2)
  · refine j_goto (tgt := 108) d_X0_divide_63 (by decide) ?_
    exact j_wk [true, true, true, true, true, false, false, false] rfl rfl (T_X0_divide_108 G rec_24 x0 x1 x2 x3 x4 M0 hrec_24 hg_x0 hg_x1 hg_x2)
def f_X0_divide_24B (x0 : Int) (x1 : Int) (x2 : Int) (x3 : Int) (rec_24 : Int → tp_M → Option (tp_M)) (x4 : Int) (M0 : tp_M) : Option (tp_M) :=
  if x4 < x3 then
    some M0
  else
    tp_lt ((tp_w (x4 - x3))) fun y9 =>
    if 0 ≤ x4 ∧ x4 < tp_al x1 then
      if ¬ (M0 x1 x4) = 0 then
        if 0 ≤ x4 ∧ x4 < tp_al x1 then
          f_X0_divide_56 rec_24 x0 x1 x2 x3 x4 y9 (tp_w ((M0 x0 4) - (M0 x1 x4))) M0 else none
      else
        f_X0_divide_56 rec_24 x0 x1 x2 x3 x4 y9 0 M0 else none
set_option maxHeartbeats 4000000 in
set_option maxRecDepth 100000 in
theorem T_X0_divide_24B (G : tp_G) (x0 : Int) (x1 : Int) (x2 : Int) (x3 : Int) (hg_x0 : tp_tg x0 = 0) (hg_x1 : tp_tg x1 = 21) (hg_x2 : tp_tg x2 = 21) (rec_24 : Int → tp_M → Option (tp_M)) (hrec_24 : ∀ (x4' : Int) (M' : tp_M), tp_J i_X0_divide (tp_rm 0) G 0 0 o_X0_divide tp_NC (tp_st M') 0 0 [some (.inr (.inr x0)), some (.inr (.inr x1)), some (.inr (.inr x2)), some (.inl x3), some (.inl (x4')), none, none, none] 24 [] (rec_24 x4' M')) (x4 : Int) (M0 : tp_M) : tp_J i_X0_divide (tp_rm 0) G 0 0 o_X0_divide tp_NC (tp_st M0) 0 0 [some (.inr (.inr x0)), some (.inr (.inr x1)), some (.inr (.inr x2)), some (.inl x3), some (.inl x4), none, none, none] 24 [] (f_X0_divide_24B x0 x1 x2 x3 rec_24 x4 M0) := by
  unfold f_X0_divide_24B
  refine j_iload d_X0_divide_24 rfl ?_
  refine j_iload_n rfl d_X0_divide_26 rfl ?_
  refine j_icmp_lt (tgt := 114) d_X0_divide_27 (by decide) (fun h8 => ?_) (fun h8 => ?_)
  · exact j_vret d_X0_divide_114 rfl rfl ⟨rfl, rfl⟩
  · refine j_iload d_X0_divide_30 rfl ?_
    refine j_iload_n rfl d_X0_divide_32 rfl ?_
    refine j_isub d_X0_divide_33 ?_
    refine j_nmI (fun y9 hy9 => ?_)
    refine j_istore (lv' := [some (.inr (.inr x0)), some (.inr (.inr x1)), some (.inr (.inr x2)), some (.inl x3), some (.inl x4), some (.inl y9), none, none]) d_X0_divide_34 (Nat.le_of_ble_eq_true rfl) rfl ?_
    refine j_aload_n rfl d_X0_divide_36 rfl ?_
    refine j_iload d_X0_divide_37 rfl ?_
    refine j_iald hg_x1 rfl d_X0_divide_39 ?_
    refine j_if_ne (tgt := 47) d_X0_divide_40 (by decide) (fun h10 => ?_) (fun h10 => ?_)
    · refine j_aload_n rfl d_X0_divide_47 rfl ?_
      refine j_geti fl_Factors_51 hg_x0 d_X0_divide_48 ?_
      refine j_aload_n rfl d_X0_divide_51 rfl ?_
      refine j_iload d_X0_divide_52 rfl ?_
      refine j_iald hg_x1 rfl d_X0_divide_54 ?_
      refine j_isub d_X0_divide_55 ?_
      exact j_wk [true, true, true, true, true, true, false, false] rfl rfl (T_X0_divide_56 G rec_24 x0 x1 x2 x3 x4 y9 (tp_w ((M0 x0 4) - (M0 x1 x4))) M0 hrec_24 hg_x0 hg_x1 hg_x2)
    · refine j_iconst ⟨by decide, by decide⟩ d_X0_divide_43 ?_
      refine j_goto (tgt := 56) d_X0_divide_44 (by decide) ?_
      exact j_wk [true, true, true, true, true, true, false, false] rfl rfl (T_X0_divide_56 G rec_24 x0 x1 x2 x3 x4 y9 0 M0 hrec_24 hg_x0 hg_x1 hg_x2)
def f_X0_divide_24 (x0 : Int) (x1 : Int) (x2 : Int) (x3 : Int) (x4 : Int) (M0 : tp_M) : Option (tp_M) := tp_lp (σ := Int × tp_M) (fun rec_ u => f_X0_divide_24B x0 x1 x2 x3 (fun x4' M0' => rec_ (x4', M0')) u.1 u.2) tp_N (x4, M0)
set_option maxHeartbeats 4000000 in
set_option maxRecDepth 100000 in
theorem T_X0_divide_24 (G : tp_G) (x0 : Int) (x1 : Int) (x2 : Int) (x3 : Int) (x4 : Int) (M0 : tp_M) (hg_x0 : tp_tg x0 = 0) (hg_x1 : tp_tg x1 = 21) (hg_x2 : tp_tg x2 = 21) : tp_J i_X0_divide (tp_rm 0) G 0 0 o_X0_divide tp_NC (tp_st M0) 0 0 [some (.inr (.inr x0)), some (.inr (.inr x1)), some (.inr (.inr x2)), some (.inl x3), some (.inl x4), none, none, none] 24 [] (f_X0_divide_24 x0 x1 x2 x3 x4 M0) := by
  unfold f_X0_divide_24
  exact j_lp (σ := Int × tp_M) (n' := fun _ => tp_NC) (g' := fun u => tp_st u.2) (k' := fun _ => 0) (q' := fun _ => 0) (lv' := fun u => [some (.inr (.inr x0)), some (.inr (.inr x1)), some (.inr (.inr x2)), some (.inl x3), some (.inl u.1), none, none, none]) (fun rec_ hrec u => T_X0_divide_24B G x0 x1 x2 x3 hg_x0 hg_x1 hg_x2 (fun x4' M0' => rec_ (x4', M0')) (fun x4' M0' => hrec (x4', M0')) u.1 u.2) tp_N (x4, M0)
def f_X0_divide (c0 : Int) (a0 : Int) (a1 : Int) (a2 : Int) (M0 : tp_M) : Option (tp_M) :=
  if tp_tg c0 = 0 then
    if tp_tg a0 = 21 then
      if tp_tg a1 = 21 then
        if a2 < 0 then
          some M0
        else
          if (tp_al a1) ≤ a2 then
            some M0
          else
            if 0 < (M0 c0 4) then
              tp_lt ((tp_w ((tp_al a0) - 1))) fun y7 =>
              f_X0_divide_24 c0 a0 a1 a2 y7 M0
            else
              some M0 else none else none else none
set_option maxHeartbeats 4000000 in
set_option maxRecDepth 100000 in
theorem T_X0_divide (G : tp_G) (c0 : Int) (a0 : Int) (a1 : Int) (a2 : Int) (M0 : tp_M) : tp_J i_X0_divide (tp_rm 0) G 0 0 o_X0_divide tp_NC (tp_st M0) 0 0 [some (.inr (.inr c0)), some (.inr (.inr a0)), some (.inr (.inr a1)), some (.inl a2), none, none, none, none] 0 [] (f_X0_divide c0 a0 a1 a2 M0) := by
  unfold f_X0_divide
  refine tp_chk (fun ht1 => ?_)
  refine tp_chk (fun ht2 => ?_)
  refine tp_chk (fun ht3 => ?_)
  refine j_iload_n rfl d_X0_divide_0 rfl ?_
  refine j_if_lt (tgt := 17) d_X0_divide_1 (by decide) (fun h4 => ?_) (fun h4 => ?_)
  · exact j_vret d_X0_divide_17 rfl rfl ⟨rfl, rfl⟩
  · refine j_iload_n rfl d_X0_divide_4 rfl ?_
    refine j_aload_n rfl d_X0_divide_5 rfl ?_
    refine j_alen ht3 (by decide) rfl (tp_al_r _) (ty := .int) (by decide) d_X0_divide_6 ?_
    refine j_icmp_ge (tgt := 17) d_X0_divide_7 (by decide) (fun h5 => ?_) (fun h5 => ?_)
    · exact j_vret d_X0_divide_17 rfl rfl ⟨rfl, rfl⟩
    · refine j_aload_n rfl d_X0_divide_10 rfl ?_
      refine j_geti fl_Factors_51 ht1 d_X0_divide_11 ?_
      refine j_if_gt (tgt := 18) d_X0_divide_14 (by decide) (fun h6 => ?_) (fun h6 => ?_)
      · refine j_aload_n rfl d_X0_divide_18 rfl ?_
        refine j_alen ht2 (by decide) rfl (tp_al_r _) (ty := .int) (by decide) d_X0_divide_19 ?_
        refine j_iconst ⟨by decide, by decide⟩ d_X0_divide_20 ?_
        refine j_isub d_X0_divide_21 ?_
        refine j_nmI (fun y7 hy7 => ?_)
        refine j_istore (lv' := [some (.inr (.inr c0)), some (.inr (.inr a0)), some (.inr (.inr a1)), some (.inl a2), some (.inl y7), none, none, none]) d_X0_divide_22 (Nat.le_of_ble_eq_true rfl) rfl ?_
        exact j_wk [true, true, true, true, true, false, false, false] rfl rfl (T_X0_divide_24 G c0 a0 a1 a2 y7 M0 ht1 ht2 ht3)
      · exact j_vret d_X0_divide_17 rfl rfl ⟨rfl, rfl⟩
set_option maxHeartbeats 4000000 in
set_option maxRecDepth 100000 in
theorem c_X0_divide (G : tp_G) (c0 : Int) (a0 : Int) (a1 : Int) (a2 : Int) (M0 : tp_M) (r : tp_M) (h : f_X0_divide c0 a0 a1 a2 M0 = some r) (l : Launch) : Met l y_X0_divide (tp_ws y_X0_divide i_X0_divide) (tp_rm 0) (tp_Pc G [.inr (.inr c0), .inr (.inr a0), .inr (.inr a1), .inl a2] tp_NC (tp_st M0)) (tp_Q G (o_X0_divide r)) 0 0 (tp_A G) :=
  tp_met (I := i_X0_divide) (y := y_X0_divide) (by decide +kernel) (Eq.refl "TypesAtPrime$Factors") (Eq.refl "divide") (lv := [some (.inr (.inr c0)), some (.inr (.inr a0)), some (.inr (.inr a1)), some (.inl a2), none, none, none, none]) rfl (Nat.le_of_ble_eq_true rfl) (T_X0_divide G c0 a0 a1 a2 M0) h l
theorem wd_602 : (.code ⟨"TypesAtPrime$Factors", "divide", "([I[II)V"⟩ prog_2_method_5_code 8 (none : Option Jvm.ClassFile.FieldType) : Cond) ∈ lw_tbl := List.mem_append_right _ (List.mem_of_getElem? (i := 602) (by decide +kernel))
theorem cs_Factors_89 : tp_CS "TypesAtPrime$Factors" 89 y_X0_divide i_X0_divide 3 := ⟨wd_602, wd_5, by decide, by decide, by decide +kernel⟩
theorem wd_599 : (.methodLink "TypesAtPrime$Factors" 89 ⟨"TypesAtPrime$Factors", "divide", "([I[II)V"⟩ : Cond) ∈ lw_tbl := List.mem_append_right _ (List.mem_of_getElem? (i := 599) (by decide +kernel))
theorem wd_601 : (.instanceMethod ⟨"TypesAtPrime$Factors", "divide", "([I[II)V"⟩ : Cond) ∈ lw_tbl := List.mem_append_right _ (List.mem_of_getElem? (i := 601) (by decide +kernel))
theorem ws_11 : (.selects "TypesAtPrime$Factors" ⟨"TypesAtPrime$Factors", "divide", "([I[II)V"⟩ ⟨"TypesAtPrime$Factors", "divide", "([I[II)V"⟩ : Cond) ∈ lw_tbl := List.mem_append_left _ (List.mem_of_getElem? (i := 11) (by decide +kernel))
theorem wd_603 : (.methodLink "TypesAtPrime$Factors" 92 ⟨"java/lang/Math", "max", "(II)I"⟩ : Cond) ∈ lw_tbl := List.mem_append_right _ (List.mem_of_getElem? (i := 603) (by decide +kernel))
theorem wd_604 : (.static ⟨"java/lang/Math", "max", "(II)I"⟩ : Cond) ∈ lw_tbl := List.mem_append_right _ (List.mem_of_getElem? (i := 604) (by decide +kernel))
theorem wd_13 : (.initialized "java/lang/Math" : Cond) ∈ lw_tbl := List.mem_append_right _ (List.mem_of_getElem? (i := 13) (by decide +kernel))
theorem wd_605 : (.code ⟨"java/lang/Math", "max", "(II)I"⟩ prog_14_method_65_code 2 (some .int) : Cond) ∈ lw_tbl := List.mem_append_right _ (List.mem_of_getElem? (i := 605) (by decide +kernel))
def y_X0_keepRemainder : MethodName := ⟨"TypesAtPrime$Factors", "keepRemainder", "([I[II)V"⟩
abbrev i_X0_keepRemainder : tp_I := (prog_2_method_6_code, "TypesAtPrime$Factors", none, 5, "keepRemainder")
abbrev o_X0_keepRemainder : tp_M → tp_O := fun r => (none, tp_NC, tp_st r)
theorem d_X0_keepRemainder_0 : decode prog_2_method_6_code 0 = .ok (.aload_n 0, 1) := by decide +kernel
theorem d_X0_keepRemainder_1 : decode prog_2_method_6_code 1 = .ok (.aload_n 1, 1) := by decide +kernel
theorem d_X0_keepRemainder_2 : decode prog_2_method_6_code 2 = .ok (.aload_n 2, 1) := by decide +kernel
theorem d_X0_keepRemainder_3 : decode prog_2_method_6_code 3 = .ok (.iload_n 3, 1) := by decide +kernel
theorem d_X0_keepRemainder_4 : decode prog_2_method_6_code 4 = .ok (.invokevirtual 89, 3) := by decide +kernel
theorem d_X0_keepRemainder_7 : decode prog_2_method_6_code 7 = .ok (.iconst 0, 1) := by decide +kernel
theorem d_X0_keepRemainder_8 : decode prog_2_method_6_code 8 = .ok (.iload_n 3, 1) := by decide +kernel
theorem d_X0_keepRemainder_9 : decode prog_2_method_6_code 9 = .ok (.invokestatic 92, 3) := by decide +kernel
theorem d_X0_keepRemainder_12 : decode prog_2_method_6_code 12 = .ok (.istore 4, 2) := by decide +kernel
theorem d_X0_keepRemainder_14 : decode prog_2_method_6_code 14 = .ok (.iload 4, 2) := by decide +kernel
theorem d_X0_keepRemainder_16 : decode prog_2_method_6_code 16 = .ok (.aload_n 1, 1) := by decide +kernel
theorem d_X0_keepRemainder_17 : decode prog_2_method_6_code 17 = .ok (.arraylength, 1) := by decide +kernel
theorem d_X0_keepRemainder_18 : decode prog_2_method_6_code 18 = .ok (.if_icmp .ge 14, 3) := by decide +kernel
theorem d_X0_keepRemainder_21 : decode prog_2_method_6_code 21 = .ok (.aload_n 1, 1) := by decide +kernel
theorem d_X0_keepRemainder_22 : decode prog_2_method_6_code 22 = .ok (.iload 4, 2) := by decide +kernel
theorem d_X0_keepRemainder_24 : decode prog_2_method_6_code 24 = .ok (.iconst 0, 1) := by decide +kernel
theorem d_X0_keepRemainder_25 : decode prog_2_method_6_code 25 = .ok (.iastore, 1) := by decide +kernel
theorem d_X0_keepRemainder_26 : decode prog_2_method_6_code 26 = .ok (.iinc 4 1, 3) := by decide +kernel
theorem d_X0_keepRemainder_29 : decode prog_2_method_6_code 29 = .ok (.goto (-15), 3) := by decide +kernel
theorem d_X0_keepRemainder_32 : decode prog_2_method_6_code 32 = .ok (.return_, 1) := by decide +kernel
def f_X0_keepRemainder_14B (x1 : Int) (rec_14 : Int → tp_M → Option (tp_M)) (x4 : Int) (M0 : tp_M) : Option (tp_M) :=
  if (tp_al x1) ≤ x4 then
    some M0
  else
    if 0 ≤ x4 ∧ x4 < tp_al x1 then
      tp_mp (tp_up M0 x1 x4 0) fun M8 =>
      tp_lt (tp_w (x4 + 1)) fun y9 =>
      rec_14 y9 M8 else none
set_option maxHeartbeats 4000000 in
set_option maxRecDepth 100000 in
theorem T_X0_keepRemainder_14B (G : tp_G) (x1 : Int) (hg_x1 : tp_tg x1 = 21) (rec_14 : Int → tp_M → Option (tp_M)) (hrec_14 : ∀ (x4' : Int) (M' : tp_M), tp_J i_X0_keepRemainder (tp_rm 1) G 0 0 o_X0_keepRemainder tp_NC (tp_st M') 0 0 [none, some (.inr (.inr x1)), none, none, some (.inl (x4'))] 14 [] (rec_14 x4' M')) (x4 : Int) (M0 : tp_M) : tp_J i_X0_keepRemainder (tp_rm 1) G 0 0 o_X0_keepRemainder tp_NC (tp_st M0) 0 0 [none, some (.inr (.inr x1)), none, none, some (.inl x4)] 14 [] (f_X0_keepRemainder_14B x1 rec_14 x4 M0) := by
  unfold f_X0_keepRemainder_14B
  refine j_iload d_X0_keepRemainder_14 rfl ?_
  refine j_aload_n rfl d_X0_keepRemainder_16 rfl ?_
  refine j_alen hg_x1 (by decide) rfl (tp_al_r _) (ty := .int) (by decide) d_X0_keepRemainder_17 ?_
  refine j_icmp_ge (tgt := 32) d_X0_keepRemainder_18 (by decide) (fun h7 => ?_) (fun h7 => ?_)
  · exact j_vret d_X0_keepRemainder_32 rfl rfl ⟨rfl, rfl⟩
  · refine j_aload_n rfl d_X0_keepRemainder_21 rfl ?_
    refine j_iload d_X0_keepRemainder_22 rfl ?_
    refine j_iconst ⟨by decide, by decide⟩ d_X0_keepRemainder_24 ?_
    refine j_iast hg_x1 rfl d_X0_keepRemainder_25 (fun M8 hM8 => ?_)
    refine j_iincN (lv' := fun y9 => [none, some (.inr (.inr x1)), none, none, some (.inl y9)]) d_X0_keepRemainder_26 rfl (Nat.le_of_ble_eq_true rfl) (fun _ => rfl) (fun y9 hy9 => ?_)
    refine j_goto (tgt := 14) d_X0_keepRemainder_29 (by decide) ?_
    exact j_wk [false, true, false, false, true] rfl rfl (hrec_14 y9 M8)
def f_X0_keepRemainder_14 (x1 : Int) (x4 : Int) (M0 : tp_M) : Option (tp_M) := tp_lp (σ := Int × tp_M) (fun rec_ u => f_X0_keepRemainder_14B x1 (fun x4' M0' => rec_ (x4', M0')) u.1 u.2) tp_N (x4, M0)
set_option maxHeartbeats 4000000 in
set_option maxRecDepth 100000 in
theorem T_X0_keepRemainder_14 (G : tp_G) (x1 : Int) (x4 : Int) (M0 : tp_M) (hg_x1 : tp_tg x1 = 21) : tp_J i_X0_keepRemainder (tp_rm 1) G 0 0 o_X0_keepRemainder tp_NC (tp_st M0) 0 0 [none, some (.inr (.inr x1)), none, none, some (.inl x4)] 14 [] (f_X0_keepRemainder_14 x1 x4 M0) := by
  unfold f_X0_keepRemainder_14
  exact j_lp (σ := Int × tp_M) (n' := fun _ => tp_NC) (g' := fun u => tp_st u.2) (k' := fun _ => 0) (q' := fun _ => 0) (lv' := fun u => [none, some (.inr (.inr x1)), none, none, some (.inl u.1)]) (fun rec_ hrec u => T_X0_keepRemainder_14B G x1 hg_x1 (fun x4' M0' => rec_ (x4', M0')) (fun x4' M0' => hrec (x4', M0')) u.1 u.2) tp_N (x4, M0)
def f_X0_keepRemainder (c0 : Int) (a0 : Int) (a1 : Int) (a2 : Int) (M0 : tp_M) : Option (tp_M) :=
  if tp_tg c0 = 0 then
    if tp_tg a0 = 21 then
      if tp_tg a1 = 21 then
        (f_X0_divide c0 a0 a1 a2 M0).bind fun r4 =>
        tp_lt ((max 0 a2)) fun y6 =>
        f_X0_keepRemainder_14 a0 y6 r4 else none else none else none
set_option maxHeartbeats 4000000 in
set_option maxRecDepth 100000 in
theorem T_X0_keepRemainder (G : tp_G) (c0 : Int) (a0 : Int) (a1 : Int) (a2 : Int) (M0 : tp_M) : tp_J i_X0_keepRemainder (tp_rm 1) G 0 0 o_X0_keepRemainder tp_NC (tp_st M0) 0 0 [some (.inr (.inr c0)), some (.inr (.inr a0)), some (.inr (.inr a1)), some (.inl a2), none] 0 [] (f_X0_keepRemainder c0 a0 a1 a2 M0) := by
  unfold f_X0_keepRemainder
  refine tp_chk (fun ht1 => ?_)
  refine tp_chk (fun ht2 => ?_)
  refine tp_chk (fun ht3 => ?_)
  refine j_aload_n rfl d_X0_keepRemainder_0 rfl ?_
  refine j_aload_n rfl d_X0_keepRemainder_1 rfl ?_
  refine j_aload_n rfl d_X0_keepRemainder_2 rfl ?_
  refine j_iload_n rfl d_X0_keepRemainder_3 rfl ?_
  refine j_bind (fun r4 h5 => ?_)
  refine j_callV (y := y_X0_divide) (I' := i_X0_divide) (avs := [.inr (.inr a0), .inr (.inr a1), .inl a2]) (c := c0) (st := []) (c_X0_divide G c0 a0 a1 a2 M0 r4 h5) cs_Factors_89 wd_599 wd_601 ws_11 ht1 rfl rfl rfl (Nat.le_of_ble_eq_true rfl) ⟨rfl, rfl⟩ ⟨by decide, by decide⟩ ⟨by decide, by decide⟩ d_X0_keepRemainder_4 ?_
  refine j_iconst ⟨by decide, by decide⟩ d_X0_keepRemainder_7 ?_
  refine j_iload_n rfl d_X0_keepRemainder_8 rfl ?_
  refine j_mmax wd_603 wd_604 wd_13 wd_605 ⟨(by decide : 1 ≤ ((tp_rm 1) : Room).frames), (by decide : 40 ≤ ((tp_rm 1) : Room).locals)⟩ ⟨by decide, by decide⟩ (Nat.le_of_ble_eq_true rfl) d_X0_keepRemainder_9 ?_
  refine j_nmI (fun y6 hy6 => ?_)
  refine j_istore (lv' := [some (.inr (.inr c0)), some (.inr (.inr a0)), some (.inr (.inr a1)), some (.inl a2), some (.inl y6)]) d_X0_keepRemainder_12 (Nat.le_of_ble_eq_true rfl) rfl ?_
  exact j_wk [false, true, false, false, true] rfl rfl (T_X0_keepRemainder_14 G a0 y6 r4 ht2)
set_option maxHeartbeats 4000000 in
set_option maxRecDepth 100000 in
theorem c_X0_keepRemainder (G : tp_G) (c0 : Int) (a0 : Int) (a1 : Int) (a2 : Int) (M0 : tp_M) (r : tp_M) (h : f_X0_keepRemainder c0 a0 a1 a2 M0 = some r) (l : Launch) : Met l y_X0_keepRemainder (tp_ws y_X0_keepRemainder i_X0_keepRemainder) (tp_rm 1) (tp_Pc G [.inr (.inr c0), .inr (.inr a0), .inr (.inr a1), .inl a2] tp_NC (tp_st M0)) (tp_Q G (o_X0_keepRemainder r)) 0 0 (tp_A G) :=
  tp_met (I := i_X0_keepRemainder) (y := y_X0_keepRemainder) (by decide +kernel) (Eq.refl "TypesAtPrime$Factors") (Eq.refl "keepRemainder") (lv := [some (.inr (.inr c0)), some (.inr (.inr a0)), some (.inr (.inr a1)), some (.inl a2), none]) rfl (Nat.le_of_ble_eq_true rfl) (T_X0_keepRemainder G c0 a0 a1 a2 M0) h l
theorem wd_113 : (.fieldLink "TypesAtPrime$Factors" 26 "TypesAtPrime$Factors" "image" "[I" : Cond) ∈ lw_tbl := List.mem_append_right _ (List.mem_of_getElem? (i := 113) (by decide +kernel))
theorem fl_Factors_26 : tp_F "TypesAtPrime$Factors" 26 0 6 2 := ⟨_, _, _, rfl, by decide, rfl, wd_113, rfl, by decide⟩
theorem fam_0_6 : ∀ c : Int, tp_tg c = 0 → tp_rv c 6 = c + 14 ∧ tp_tg (c + 14) = 21 ∧ tp_al (c + 14) = 9 := by
  intro c hc
  obtain ⟨h0, xs, -, h2⟩ := tp_tg_at (t := 0) hc
  have h : (List.range tp_NC).all (fun i => decide (tp_tg (i : Int) = 0 → tp_rv (i : Int) 6 = (i : Int) + 14 ∧ tp_tg ((i : Int) + 14) = 21 ∧ tp_al ((i : Int) + 14) = 9)) = true := by decide +kernel
  have h3 := List.all_eq_true.mp h c.toNat (List.mem_range.mpr h2)
  have h4 : ((c.toNat : Nat) : Int) = c := by omega
  rw [h4] at h3
  exact of_decide_eq_true h3 hc
theorem wd_114 : (.fieldLink "TypesAtPrime$Factors" 29 "TypesAtPrime$Factors" "base" "[I" : Cond) ∈ lw_tbl := List.mem_append_right _ (List.mem_of_getElem? (i := 114) (by decide +kernel))
theorem fl_Factors_29 : tp_F "TypesAtPrime$Factors" 29 0 7 2 := ⟨_, _, _, rfl, by decide, rfl, wd_114, rfl, by decide⟩
theorem fam_0_7 : ∀ c : Int, tp_tg c = 0 → tp_rv c 7 = c + 15 ∧ tp_tg (c + 15) = 21 ∧ tp_al (c + 15) = 9 := by
  intro c hc
  obtain ⟨h0, xs, -, h2⟩ := tp_tg_at (t := 0) hc
  have h : (List.range tp_NC).all (fun i => decide (tp_tg (i : Int) = 0 → tp_rv (i : Int) 7 = (i : Int) + 15 ∧ tp_tg ((i : Int) + 15) = 21 ∧ tp_al ((i : Int) + 15) = 9)) = true := by decide +kernel
  have h3 := List.all_eq_true.mp h c.toNat (List.mem_range.mpr h2)
  have h4 : ((c.toNat : Nat) : Int) = c := by omega
  rw [h4] at h3
  exact of_decide_eq_true h3 hc
theorem wd_592 : (.methodLink "TypesAtPrime$Factors" 98 ⟨"java/lang/System", "arraycopy", "(Ljava/lang/Object;ILjava/lang/Object;II)V"⟩ : Cond) ∈ lw_tbl := List.mem_append_right _ (List.mem_of_getElem? (i := 592) (by decide +kernel))
theorem wd_594 : (.native ⟨"java/lang/System", "arraycopy", "(Ljava/lang/Object;ILjava/lang/Object;II)V"⟩ : Cond) ∈ lw_tbl := List.mem_append_right _ (List.mem_of_getElem? (i := 594) (by decide +kernel))
theorem wd_593 : (.static ⟨"java/lang/System", "arraycopy", "(Ljava/lang/Object;ILjava/lang/Object;II)V"⟩ : Cond) ∈ lw_tbl := List.mem_append_right _ (List.mem_of_getElem? (i := 593) (by decide +kernel))
theorem wd_15 : (.initialized "java/lang/System" : Cond) ∈ lw_tbl := List.mem_append_right _ (List.mem_of_getElem? (i := 15) (by decide +kernel))
theorem wd_119 : (.fieldLink "TypesAtPrime$Factors" 44 "TypesAtPrime$Factors" "product" "[I" : Cond) ∈ lw_tbl := List.mem_append_right _ (List.mem_of_getElem? (i := 119) (by decide +kernel))
theorem fl_Factors_44 : tp_F "TypesAtPrime$Factors" 44 0 12 2 := ⟨_, _, _, rfl, by decide, rfl, wd_119, rfl, by decide⟩
theorem fam_0_12 : ∀ c : Int, tp_tg c = 0 → tp_rv c 12 = c + 20 ∧ tp_tg (c + 20) = 21 ∧ tp_al (c + 20) = 18 := by
  intro c hc
  obtain ⟨h0, xs, -, h2⟩ := tp_tg_at (t := 0) hc
  have h : (List.range tp_NC).all (fun i => decide (tp_tg (i : Int) = 0 → tp_rv (i : Int) 12 = (i : Int) + 20 ∧ tp_tg ((i : Int) + 20) = 21 ∧ tp_al ((i : Int) + 20) = 18)) = true := by decide +kernel
  have h3 := List.all_eq_true.mp h c.toNat (List.mem_range.mpr h2)
  have h4 : ((c.toNat : Nat) : Int) = c := by omega
  rw [h4] at h3
  exact of_decide_eq_true h3 hc
theorem wd_486 : (.code ⟨"java/util/Arrays", "fill", "([II)V"⟩ prog_19_method_103_code 4 (none : Option Jvm.ClassFile.FieldType) : Cond) ∈ lw_tbl := List.mem_append_right _ (List.mem_of_getElem? (i := 486) (by decide +kernel))
theorem wd_14 : (.initialized "java/util/Arrays" : Cond) ∈ lw_tbl := List.mem_append_right _ (List.mem_of_getElem? (i := 14) (by decide +kernel))
theorem cs_Factors_66 : tp_CS "TypesAtPrime$Factors" 66 y_J7_fill_53178 i_J7_fill_53178 2 := ⟨wd_486, wd_14, by decide, by decide, by decide +kernel⟩
theorem wd_587 : (.methodLink "TypesAtPrime$Factors" 66 ⟨"java/util/Arrays", "fill", "([II)V"⟩ : Cond) ∈ lw_tbl := List.mem_append_right _ (List.mem_of_getElem? (i := 587) (by decide +kernel))
theorem wd_485 : (.static ⟨"java/util/Arrays", "fill", "([II)V"⟩ : Cond) ∈ lw_tbl := List.mem_append_right _ (List.mem_of_getElem? (i := 485) (by decide +kernel))
theorem wd_112 : (.fieldLink "TypesAtPrime$Factors" 23 "TypesAtPrime$Factors" "rest" "[I" : Cond) ∈ lw_tbl := List.mem_append_right _ (List.mem_of_getElem? (i := 112) (by decide +kernel))
theorem fl_Factors_23 : tp_F "TypesAtPrime$Factors" 23 0 5 2 := ⟨_, _, _, rfl, by decide, rfl, wd_112, rfl, by decide⟩
theorem fam_0_5 : ∀ c : Int, tp_tg c = 0 → tp_rv c 5 = c + 13 ∧ tp_tg (c + 13) = 21 ∧ tp_al (c + 13) = 9 := by
  intro c hc
  obtain ⟨h0, xs, -, h2⟩ := tp_tg_at (t := 0) hc
  have h : (List.range tp_NC).all (fun i => decide (tp_tg (i : Int) = 0 → tp_rv (i : Int) 5 = (i : Int) + 13 ∧ tp_tg ((i : Int) + 13) = 21 ∧ tp_al ((i : Int) + 13) = 9)) = true := by decide +kernel
  have h3 := List.all_eq_true.mp h c.toNat (List.mem_range.mpr h2)
  have h4 : ((c.toNat : Nat) : Int) = c := by omega
  rw [h4] at h3
  exact of_decide_eq_true h3 hc
theorem wd_598 : (.code ⟨"TypesAtPrime$Factors", "keepRemainder", "([I[II)V"⟩ prog_2_method_6_code 5 (none : Option Jvm.ClassFile.FieldType) : Cond) ∈ lw_tbl := List.mem_append_right _ (List.mem_of_getElem? (i := 598) (by decide +kernel))
theorem cs_Factors_82 : tp_CS "TypesAtPrime$Factors" 82 y_X0_keepRemainder i_X0_keepRemainder 3 := ⟨wd_598, wd_5, by decide, by decide, by decide +kernel⟩
theorem wd_595 : (.methodLink "TypesAtPrime$Factors" 82 ⟨"TypesAtPrime$Factors", "keepRemainder", "([I[II)V"⟩ : Cond) ∈ lw_tbl := List.mem_append_right _ (List.mem_of_getElem? (i := 595) (by decide +kernel))
theorem wd_597 : (.instanceMethod ⟨"TypesAtPrime$Factors", "keepRemainder", "([I[II)V"⟩ : Cond) ∈ lw_tbl := List.mem_append_right _ (List.mem_of_getElem? (i := 597) (by decide +kernel))
theorem ws_10 : (.selects "TypesAtPrime$Factors" ⟨"TypesAtPrime$Factors", "keepRemainder", "([I[II)V"⟩ ⟨"TypesAtPrime$Factors", "keepRemainder", "([I[II)V"⟩ : Cond) ∈ lw_tbl := List.mem_append_left _ (List.mem_of_getElem? (i := 10) (by decide +kernel))
def y_X0_raiseImage : MethodName := ⟨"TypesAtPrime$Factors", "raiseImage", "()V"⟩
abbrev i_X0_raiseImage : tp_I := (prog_2_method_7_code, "TypesAtPrime$Factors", none, 4, "raiseImage")
abbrev o_X0_raiseImage : tp_M → tp_O := fun r => (none, tp_NC, tp_st r)
theorem d_X0_raiseImage_0 : decode prog_2_method_7_code 0 = .ok (.aload_n 0, 1) := by decide +kernel
theorem d_X0_raiseImage_1 : decode prog_2_method_7_code 1 = .ok (.getfield 26, 3) := by decide +kernel
theorem d_X0_raiseImage_4 : decode prog_2_method_7_code 4 = .ok (.iconst 0, 1) := by decide +kernel
theorem d_X0_raiseImage_5 : decode prog_2_method_7_code 5 = .ok (.aload_n 0, 1) := by decide +kernel
theorem d_X0_raiseImage_6 : decode prog_2_method_7_code 6 = .ok (.getfield 29, 3) := by decide +kernel
theorem d_X0_raiseImage_9 : decode prog_2_method_7_code 9 = .ok (.iconst 0, 1) := by decide +kernel
theorem d_X0_raiseImage_10 : decode prog_2_method_7_code 10 = .ok (.bipush 9, 2) := by decide +kernel
theorem d_X0_raiseImage_12 : decode prog_2_method_7_code 12 = .ok (.invokestatic 98, 3) := by decide +kernel
theorem d_X0_raiseImage_15 : decode prog_2_method_7_code 15 = .ok (.iconst 1, 1) := by decide +kernel
theorem d_X0_raiseImage_16 : decode prog_2_method_7_code 16 = .ok (.istore_n 1, 1) := by decide +kernel
theorem d_X0_raiseImage_17 : decode prog_2_method_7_code 17 = .ok (.iload_n 1, 1) := by decide +kernel
theorem d_X0_raiseImage_18 : decode prog_2_method_7_code 18 = .ok (.aload_n 0, 1) := by decide +kernel
theorem d_X0_raiseImage_19 : decode prog_2_method_7_code 19 = .ok (.getfield 51, 3) := by decide +kernel
theorem d_X0_raiseImage_22 : decode prog_2_method_7_code 22 = .ok (.if_icmp .ge 148, 3) := by decide +kernel
theorem d_X0_raiseImage_25 : decode prog_2_method_7_code 25 = .ok (.aload_n 0, 1) := by decide +kernel
theorem d_X0_raiseImage_26 : decode prog_2_method_7_code 26 = .ok (.getfield 44, 3) := by decide +kernel
theorem d_X0_raiseImage_29 : decode prog_2_method_7_code 29 = .ok (.iconst 0, 1) := by decide +kernel
theorem d_X0_raiseImage_30 : decode prog_2_method_7_code 30 = .ok (.invokestatic 66, 3) := by decide +kernel
theorem d_X0_raiseImage_33 : decode prog_2_method_7_code 33 = .ok (.iconst 0, 1) := by decide +kernel
theorem d_X0_raiseImage_34 : decode prog_2_method_7_code 34 = .ok (.istore_n 2, 1) := by decide +kernel
theorem d_X0_raiseImage_35 : decode prog_2_method_7_code 35 = .ok (.iload_n 2, 1) := by decide +kernel
theorem d_X0_raiseImage_36 : decode prog_2_method_7_code 36 = .ok (.bipush 9, 2) := by decide +kernel
theorem d_X0_raiseImage_38 : decode prog_2_method_7_code 38 = .ok (.if_icmp .ge 59, 3) := by decide +kernel
theorem d_X0_raiseImage_41 : decode prog_2_method_7_code 41 = .ok (.aload_n 0, 1) := by decide +kernel
theorem d_X0_raiseImage_42 : decode prog_2_method_7_code 42 = .ok (.getfield 26, 3) := by decide +kernel
theorem d_X0_raiseImage_45 : decode prog_2_method_7_code 45 = .ok (.iload_n 2, 1) := by decide +kernel
theorem d_X0_raiseImage_46 : decode prog_2_method_7_code 46 = .ok (.iaload, 1) := by decide +kernel
theorem d_X0_raiseImage_47 : decode prog_2_method_7_code 47 = .ok (.ifCond .ne 6, 3) := by decide +kernel
theorem d_X0_raiseImage_50 : decode prog_2_method_7_code 50 = .ok (.goto 41, 3) := by decide +kernel
theorem d_X0_raiseImage_53 : decode prog_2_method_7_code 53 = .ok (.iconst 0, 1) := by decide +kernel
theorem d_X0_raiseImage_54 : decode prog_2_method_7_code 54 = .ok (.istore_n 3, 1) := by decide +kernel
theorem d_X0_raiseImage_55 : decode prog_2_method_7_code 55 = .ok (.iload_n 3, 1) := by decide +kernel
theorem d_X0_raiseImage_56 : decode prog_2_method_7_code 56 = .ok (.bipush 9, 2) := by decide +kernel
theorem d_X0_raiseImage_58 : decode prog_2_method_7_code 58 = .ok (.if_icmp .ge 33, 3) := by decide +kernel
theorem d_X0_raiseImage_61 : decode prog_2_method_7_code 61 = .ok (.aload_n 0, 1) := by decide +kernel
theorem d_X0_raiseImage_62 : decode prog_2_method_7_code 62 = .ok (.getfield 44, 3) := by decide +kernel
theorem d_X0_raiseImage_65 : decode prog_2_method_7_code 65 = .ok (.iload_n 2, 1) := by decide +kernel
theorem d_X0_raiseImage_66 : decode prog_2_method_7_code 66 = .ok (.iload_n 3, 1) := by decide +kernel
theorem d_X0_raiseImage_67 : decode prog_2_method_7_code 67 = .ok (.iadd, 1) := by decide +kernel
theorem d_X0_raiseImage_68 : decode prog_2_method_7_code 68 = .ok (.dup2, 1) := by decide +kernel
theorem d_X0_raiseImage_69 : decode prog_2_method_7_code 69 = .ok (.iaload, 1) := by decide +kernel
theorem d_X0_raiseImage_70 : decode prog_2_method_7_code 70 = .ok (.aload_n 0, 1) := by decide +kernel
theorem d_X0_raiseImage_71 : decode prog_2_method_7_code 71 = .ok (.getfield 26, 3) := by decide +kernel
theorem d_X0_raiseImage_74 : decode prog_2_method_7_code 74 = .ok (.iload_n 2, 1) := by decide +kernel
theorem d_X0_raiseImage_75 : decode prog_2_method_7_code 75 = .ok (.iaload, 1) := by decide +kernel
theorem d_X0_raiseImage_76 : decode prog_2_method_7_code 76 = .ok (.aload_n 0, 1) := by decide +kernel
theorem d_X0_raiseImage_77 : decode prog_2_method_7_code 77 = .ok (.getfield 29, 3) := by decide +kernel
theorem d_X0_raiseImage_80 : decode prog_2_method_7_code 80 = .ok (.iload_n 3, 1) := by decide +kernel
theorem d_X0_raiseImage_81 : decode prog_2_method_7_code 81 = .ok (.iaload, 1) := by decide +kernel
theorem d_X0_raiseImage_82 : decode prog_2_method_7_code 82 = .ok (.imul, 1) := by decide +kernel
theorem d_X0_raiseImage_83 : decode prog_2_method_7_code 83 = .ok (.iadd, 1) := by decide +kernel
theorem d_X0_raiseImage_84 : decode prog_2_method_7_code 84 = .ok (.iastore, 1) := by decide +kernel
theorem d_X0_raiseImage_85 : decode prog_2_method_7_code 85 = .ok (.iinc 3 1, 3) := by decide +kernel
theorem d_X0_raiseImage_88 : decode prog_2_method_7_code 88 = .ok (.goto (-33), 3) := by decide +kernel
theorem d_X0_raiseImage_91 : decode prog_2_method_7_code 91 = .ok (.iinc 2 1, 3) := by decide +kernel
theorem d_X0_raiseImage_94 : decode prog_2_method_7_code 94 = .ok (.goto (-59), 3) := by decide +kernel
theorem d_X0_raiseImage_97 : decode prog_2_method_7_code 97 = .ok (.iconst 0, 1) := by decide +kernel
theorem d_X0_raiseImage_98 : decode prog_2_method_7_code 98 = .ok (.istore_n 2, 1) := by decide +kernel
theorem d_X0_raiseImage_99 : decode prog_2_method_7_code 99 = .ok (.iload_n 2, 1) := by decide +kernel
theorem d_X0_raiseImage_100 : decode prog_2_method_7_code 100 = .ok (.aload_n 0, 1) := by decide +kernel
theorem d_X0_raiseImage_101 : decode prog_2_method_7_code 101 = .ok (.getfield 44, 3) := by decide +kernel
theorem d_X0_raiseImage_104 : decode prog_2_method_7_code 104 = .ok (.arraylength, 1) := by decide +kernel
theorem d_X0_raiseImage_105 : decode prog_2_method_7_code 105 = .ok (.if_icmp .ge 25, 3) := by decide +kernel
theorem d_X0_raiseImage_108 : decode prog_2_method_7_code 108 = .ok (.aload_n 0, 1) := by decide +kernel
theorem d_X0_raiseImage_109 : decode prog_2_method_7_code 109 = .ok (.getfield 44, 3) := by decide +kernel
theorem d_X0_raiseImage_112 : decode prog_2_method_7_code 112 = .ok (.iload_n 2, 1) := by decide +kernel
theorem d_X0_raiseImage_113 : decode prog_2_method_7_code 113 = .ok (.aload_n 0, 1) := by decide +kernel
theorem d_X0_raiseImage_114 : decode prog_2_method_7_code 114 = .ok (.aload_n 0, 1) := by decide +kernel
theorem d_X0_raiseImage_115 : decode prog_2_method_7_code 115 = .ok (.getfield 44, 3) := by decide +kernel
theorem d_X0_raiseImage_118 : decode prog_2_method_7_code 118 = .ok (.iload_n 2, 1) := by decide +kernel
theorem d_X0_raiseImage_119 : decode prog_2_method_7_code 119 = .ok (.iaload, 1) := by decide +kernel
theorem d_X0_raiseImage_120 : decode prog_2_method_7_code 120 = .ok (.invokevirtual 54, 3) := by decide +kernel
theorem d_X0_raiseImage_123 : decode prog_2_method_7_code 123 = .ok (.iastore, 1) := by decide +kernel
theorem d_X0_raiseImage_124 : decode prog_2_method_7_code 124 = .ok (.iinc 2 1, 3) := by decide +kernel
theorem d_X0_raiseImage_127 : decode prog_2_method_7_code 127 = .ok (.goto (-28), 3) := by decide +kernel
theorem d_X0_raiseImage_130 : decode prog_2_method_7_code 130 = .ok (.aload_n 0, 1) := by decide +kernel
theorem d_X0_raiseImage_131 : decode prog_2_method_7_code 131 = .ok (.aload_n 0, 1) := by decide +kernel
theorem d_X0_raiseImage_132 : decode prog_2_method_7_code 132 = .ok (.getfield 44, 3) := by decide +kernel
theorem d_X0_raiseImage_135 : decode prog_2_method_7_code 135 = .ok (.aload_n 0, 1) := by decide +kernel
theorem d_X0_raiseImage_136 : decode prog_2_method_7_code 136 = .ok (.getfield 23, 3) := by decide +kernel
theorem d_X0_raiseImage_139 : decode prog_2_method_7_code 139 = .ok (.aload_n 0, 1) := by decide +kernel
theorem d_X0_raiseImage_140 : decode prog_2_method_7_code 140 = .ok (.getfield 23, 3) := by decide +kernel
theorem d_X0_raiseImage_143 : decode prog_2_method_7_code 143 = .ok (.invokestatic 58, 3) := by decide +kernel
theorem d_X0_raiseImage_146 : decode prog_2_method_7_code 146 = .ok (.invokevirtual 82, 3) := by decide +kernel
theorem d_X0_raiseImage_149 : decode prog_2_method_7_code 149 = .ok (.aload_n 0, 1) := by decide +kernel
theorem d_X0_raiseImage_150 : decode prog_2_method_7_code 150 = .ok (.getfield 44, 3) := by decide +kernel
theorem d_X0_raiseImage_153 : decode prog_2_method_7_code 153 = .ok (.iconst 0, 1) := by decide +kernel
theorem d_X0_raiseImage_154 : decode prog_2_method_7_code 154 = .ok (.aload_n 0, 1) := by decide +kernel
theorem d_X0_raiseImage_155 : decode prog_2_method_7_code 155 = .ok (.getfield 26, 3) := by decide +kernel
theorem d_X0_raiseImage_158 : decode prog_2_method_7_code 158 = .ok (.iconst 0, 1) := by decide +kernel
theorem d_X0_raiseImage_159 : decode prog_2_method_7_code 159 = .ok (.bipush 9, 2) := by decide +kernel
theorem d_X0_raiseImage_161 : decode prog_2_method_7_code 161 = .ok (.invokestatic 98, 3) := by decide +kernel
theorem d_X0_raiseImage_164 : decode prog_2_method_7_code 164 = .ok (.iinc 1 1, 3) := by decide +kernel
theorem d_X0_raiseImage_167 : decode prog_2_method_7_code 167 = .ok (.goto (-150), 3) := by decide +kernel
theorem d_X0_raiseImage_170 : decode prog_2_method_7_code 170 = .ok (.return_, 1) := by decide +kernel
def f_X0_raiseImage_99B (rec_17 : Int → tp_M → Option (tp_M)) (x0 : Int) (x1 : Int) (rec_99 : Int → tp_M → Option (tp_M)) (x2 : Int) (M0 : tp_M) : Option (tp_M) :=
  if 18 ≤ x2 then
    (f_X10_degreeOf (x0 + 13) M0).bind fun r8 =>
    (f_X0_keepRemainder x0 (x0 + 20) (x0 + 13) r8 M0).bind fun r10 =>
    if (0 : Int) ≤ 0 ∧ (0 : Int) ≤ 0 ∧ (0 : Int) ≤ 9 ∧ (0 + 9 : Int) ≤ 18 ∧ (0 + 9 : Int) ≤ 9 then
      tp_mp (tp_cp r10 (x0 + 20) 0 (x0 + 14) 0 9) fun M12 =>
      tp_lt (tp_w (x1 + 1)) fun y13 =>
      rec_17 y13 M12 else none
  else
    if 0 ≤ x2 ∧ x2 < 18 then
      (f_X0_residue x0 (M0 (x0 + 20) x2) M0).bind fun r14 =>
      if 0 ≤ x2 ∧ x2 < 18 then
        tp_mp (tp_up M0 (x0 + 20) x2 r14) fun M16 =>
        tp_lt (tp_w (x2 + 1)) fun y17 =>
        rec_99 y17 M16 else none else none
set_option maxHeartbeats 4000000 in
set_option maxRecDepth 100000 in
theorem T_X0_raiseImage_99B (G : tp_G) (rec_17 : Int → tp_M → Option (tp_M)) (x0 : Int) (x1 : Int) (hrec_17 : ∀ (x1' : Int) (M' : tp_M), tp_J i_X0_raiseImage (tp_rm 2) G 0 0 o_X0_raiseImage tp_NC (tp_st M') 0 0 [some (.inr (.inr x0)), some (.inl (x1')), none, none] 17 [] (rec_17 x1' M')) (hg_x0 : tp_tg x0 = 0) (rec_99 : Int → tp_M → Option (tp_M)) (hrec_99 : ∀ (x2' : Int) (M' : tp_M), tp_J i_X0_raiseImage (tp_rm 2) G 0 0 o_X0_raiseImage tp_NC (tp_st M') 0 0 [some (.inr (.inr x0)), some (.inl x1), some (.inl (x2')), none] 99 [] (rec_99 x2' M')) (x2 : Int) (M0 : tp_M) : tp_J i_X0_raiseImage (tp_rm 2) G 0 0 o_X0_raiseImage tp_NC (tp_st M0) 0 0 [some (.inr (.inr x0)), some (.inl x1), some (.inl x2), none] 99 [] (f_X0_raiseImage_99B rec_17 x0 x1 rec_99 x2 M0) := by
  unfold f_X0_raiseImage_99B
  refine j_iload_n rfl d_X0_raiseImage_99 rfl ?_
  refine j_aload_n rfl d_X0_raiseImage_100 rfl ?_
  refine j_getr fl_Factors_44 hg_x0 (fam_0_12 _ hg_x0).1 d_X0_raiseImage_101 ?_
  refine j_alen ((fam_0_12 _ hg_x0).2.1) (by decide) ((fam_0_12 _ hg_x0).2.2) ⟨by decide, by decide⟩ (ty := .int) (by decide) d_X0_raiseImage_104 ?_
  refine j_icmp_ge (tgt := 130) d_X0_raiseImage_105 (by decide) (fun h7 => ?_) (fun h7 => ?_)
  · refine j_aload_n rfl d_X0_raiseImage_130 rfl ?_
    refine j_aload_n rfl d_X0_raiseImage_131 rfl ?_
    refine j_getr fl_Factors_44 hg_x0 (fam_0_12 _ hg_x0).1 d_X0_raiseImage_132 ?_
    refine j_aload_n rfl d_X0_raiseImage_135 rfl ?_
    refine j_getr fl_Factors_23 hg_x0 (fam_0_5 _ hg_x0).1 d_X0_raiseImage_136 ?_
    refine j_aload_n rfl d_X0_raiseImage_139 rfl ?_
    refine j_getr fl_Factors_23 hg_x0 (fam_0_5 _ hg_x0).1 d_X0_raiseImage_140 ?_
    refine j_bind (fun r8 h9 => ?_)
    refine j_callSN (y := y_X10_degreeOf) (I' := i_X10_degreeOf) (avs := [.inr (.inr (x0 + 13))]) (st := [.inr (.inr (x0 + 13)), .inr (.inr (x0 + 20)), .inr (.inr x0)]) (c_X10_degreeOf G (x0 + 13) M0 r8 h9) cs_Factors_58 (by decide +kernel : (.methodLinkNest "TypesAtPrime$Factors" 58 ⟨"TypesAtPrime", "degreeOf", "([I)I"⟩ "TypesAtPrime" : Cond) ∈ tp_nest) wd_517 rfl rfl (Nat.le_of_ble_eq_true rfl) ⟨rfl, rfl⟩ ⟨by decide, by decide⟩ ⟨by decide, by decide⟩ d_X0_raiseImage_143 ?_
    refine j_bind (fun r10 h11 => ?_)
    refine j_callV (y := y_X0_keepRemainder) (I' := i_X0_keepRemainder) (avs := [.inr (.inr (x0 + 20)), .inr (.inr (x0 + 13)), .inl r8]) (c := x0) (st := []) (c_X0_keepRemainder G x0 (x0 + 20) (x0 + 13) r8 M0 r10 h11) cs_Factors_82 wd_595 wd_597 ws_10 hg_x0 rfl rfl rfl (Nat.le_of_ble_eq_true rfl) ⟨rfl, rfl⟩ ⟨by decide, by decide⟩ ⟨by decide, by decide⟩ d_X0_raiseImage_146 ?_
    refine j_aload_n rfl d_X0_raiseImage_149 rfl ?_
    refine j_getr fl_Factors_44 hg_x0 (fam_0_12 _ hg_x0).1 d_X0_raiseImage_150 ?_
    refine j_iconst ⟨by decide, by decide⟩ d_X0_raiseImage_153 ?_
    refine j_aload_n rfl d_X0_raiseImage_154 rfl ?_
    refine j_getr fl_Factors_26 hg_x0 (fam_0_6 _ hg_x0).1 d_X0_raiseImage_155 ?_
    refine j_iconst ⟨by decide, by decide⟩ d_X0_raiseImage_158 ?_
    refine j_bipush ⟨by decide, by decide⟩ (by decide +kernel) d_X0_raiseImage_159 ?_
    refine j_acpi ((fam_0_12 _ hg_x0).2.1) ((fam_0_12 _ hg_x0).2.2) ((fam_0_6 _ hg_x0).2.1) ((fam_0_6 _ hg_x0).2.2) wd_592 wd_594 wd_593 wd_15 ⟨(by decide : 1 ≤ ((tp_rm 2) : Room).frames), (by decide : 60 ≤ ((tp_rm 2) : Room).locals)⟩ (Nat.le_of_ble_eq_true rfl) d_X0_raiseImage_161 (fun M12 hM12 => ?_)
    refine j_iincN (lv' := fun y13 => [some (.inr (.inr x0)), some (.inl y13), some (.inl x2), none]) d_X0_raiseImage_164 rfl (Nat.le_of_ble_eq_true rfl) (fun _ => rfl) (fun y13 hy13 => ?_)
    refine j_goto (tgt := 17) d_X0_raiseImage_167 (by decide) ?_
    exact j_wk [true, true, false, false] rfl rfl (hrec_17 y13 M12)
  · refine j_aload_n rfl d_X0_raiseImage_108 rfl ?_
    refine j_getr fl_Factors_44 hg_x0 (fam_0_12 _ hg_x0).1 d_X0_raiseImage_109 ?_
    refine j_iload_n rfl d_X0_raiseImage_112 rfl ?_
    refine j_aload_n rfl d_X0_raiseImage_113 rfl ?_
    refine j_aload_n rfl d_X0_raiseImage_114 rfl ?_
    refine j_getr fl_Factors_44 hg_x0 (fam_0_12 _ hg_x0).1 d_X0_raiseImage_115 ?_
    refine j_iload_n rfl d_X0_raiseImage_118 rfl ?_
    refine j_iald ((fam_0_12 _ hg_x0).2.1) ((fam_0_12 _ hg_x0).2.2) d_X0_raiseImage_119 ?_
    refine j_bind (fun r14 h15 => ?_)
    refine j_callV (y := y_X0_residue) (I' := i_X0_residue) (avs := [.inl (M0 (x0 + 20) x2)]) (c := x0) (st := [.inl x2, .inr (.inr (x0 + 20))]) (c_X0_residue G x0 (M0 (x0 + 20) x2) M0 r14 h15) cs_Factors_54 wd_578 wd_580 ws_7 hg_x0 rfl rfl rfl (Nat.le_of_ble_eq_true rfl) ⟨rfl, rfl⟩ ⟨by decide, by decide⟩ ⟨by decide, by decide⟩ d_X0_raiseImage_120 ?_
    refine j_iast ((fam_0_12 _ hg_x0).2.1) ((fam_0_12 _ hg_x0).2.2) d_X0_raiseImage_123 (fun M16 hM16 => ?_)
    refine j_iincN (lv' := fun y17 => [some (.inr (.inr x0)), some (.inl x1), some (.inl y17), none]) d_X0_raiseImage_124 rfl (Nat.le_of_ble_eq_true rfl) (fun _ => rfl) (fun y17 hy17 => ?_)
    refine j_goto (tgt := 99) d_X0_raiseImage_127 (by decide) ?_
    exact j_wk [true, true, true, false] rfl rfl (hrec_99 y17 M16)
def f_X0_raiseImage_99 (rec_17 : Int → tp_M → Option (tp_M)) (x0 : Int) (x1 : Int) (x2 : Int) (M0 : tp_M) : Option (tp_M) := tp_lp (σ := Int × tp_M) (fun rec_ u => f_X0_raiseImage_99B rec_17 x0 x1 (fun x2' M0' => rec_ (x2', M0')) u.1 u.2) tp_N (x2, M0)
set_option maxHeartbeats 4000000 in
set_option maxRecDepth 100000 in
theorem T_X0_raiseImage_99 (G : tp_G) (rec_17 : Int → tp_M → Option (tp_M)) (x0 : Int) (x1 : Int) (x2 : Int) (M0 : tp_M) (hrec_17 : ∀ (x1' : Int) (M' : tp_M), tp_J i_X0_raiseImage (tp_rm 2) G 0 0 o_X0_raiseImage tp_NC (tp_st M') 0 0 [some (.inr (.inr x0)), some (.inl (x1')), none, none] 17 [] (rec_17 x1' M')) (hg_x0 : tp_tg x0 = 0) : tp_J i_X0_raiseImage (tp_rm 2) G 0 0 o_X0_raiseImage tp_NC (tp_st M0) 0 0 [some (.inr (.inr x0)), some (.inl x1), some (.inl x2), none] 99 [] (f_X0_raiseImage_99 rec_17 x0 x1 x2 M0) := by
  unfold f_X0_raiseImage_99
  exact j_lp (σ := Int × tp_M) (n' := fun _ => tp_NC) (g' := fun u => tp_st u.2) (k' := fun _ => 0) (q' := fun _ => 0) (lv' := fun u => [some (.inr (.inr x0)), some (.inl x1), some (.inl u.1), none]) (fun rec_ hrec u => T_X0_raiseImage_99B G rec_17 x0 x1 hrec_17 hg_x0 (fun x2' M0' => rec_ (x2', M0')) (fun x2' M0' => hrec (x2', M0')) u.1 u.2) tp_N (x2, M0)
def f_X0_raiseImage_91 (rec_17 : Int → tp_M → Option (tp_M)) (rec_35 : Int → tp_M → Option (tp_M)) (x0 : Int) (x1 : Int) (x2 : Int) (M0 : tp_M) : Option (tp_M) :=
  tp_lt (tp_w (x2 + 1)) fun y20 =>
  rec_35 y20 M0
set_option maxHeartbeats 4000000 in
set_option maxRecDepth 100000 in
theorem T_X0_raiseImage_91 (G : tp_G) (rec_17 : Int → tp_M → Option (tp_M)) (rec_35 : Int → tp_M → Option (tp_M)) (x0 : Int) (x1 : Int) (x2 : Int) (M0 : tp_M) (hrec_17 : ∀ (x1' : Int) (M' : tp_M), tp_J i_X0_raiseImage (tp_rm 2) G 0 0 o_X0_raiseImage tp_NC (tp_st M') 0 0 [some (.inr (.inr x0)), some (.inl (x1')), none, none] 17 [] (rec_17 x1' M')) (hrec_35 : ∀ (x2' : Int) (M' : tp_M), tp_J i_X0_raiseImage (tp_rm 2) G 0 0 o_X0_raiseImage tp_NC (tp_st M') 0 0 [some (.inr (.inr x0)), some (.inl x1), some (.inl (x2')), none] 35 [] (rec_35 x2' M')) (hg_x0 : tp_tg x0 = 0) : tp_J i_X0_raiseImage (tp_rm 2) G 0 0 o_X0_raiseImage tp_NC (tp_st M0) 0 0 [some (.inr (.inr x0)), some (.inl x1), some (.inl x2), none] 91 [] (f_X0_raiseImage_91 rec_17 rec_35 x0 x1 x2 M0) := by
  unfold f_X0_raiseImage_91
  refine j_iincN (lv' := fun y20 => [some (.inr (.inr x0)), some (.inl x1), some (.inl y20), none]) d_X0_raiseImage_91 rfl (Nat.le_of_ble_eq_true rfl) (fun _ => rfl) (fun y20 hy20 => ?_)
  refine j_goto (tgt := 35) d_X0_raiseImage_94 (by decide) ?_
  exact j_wk [true, true, true, false] rfl rfl (hrec_35 y20 M0)
def f_X0_raiseImage_55B (rec_17 : Int → tp_M → Option (tp_M)) (rec_35 : Int → tp_M → Option (tp_M)) (x0 : Int) (x1 : Int) (x2 : Int) (rec_55 : Int → tp_M → Option (tp_M)) (x3 : Int) (M0 : tp_M) : Option (tp_M) :=
  if 9 ≤ x3 then
    f_X0_raiseImage_91 rec_17 rec_35 x0 x1 x2 M0
  else
    if 0 ≤ (tp_w (x2 + x3)) ∧ (tp_w (x2 + x3)) < 18 then
      if 0 ≤ x2 ∧ x2 < 9 then
        if 0 ≤ x3 ∧ x3 < 9 then
          if 0 ≤ (tp_w (x2 + x3)) ∧ (tp_w (x2 + x3)) < 18 then
            tp_mp (tp_up M0 (x0 + 20) (tp_w (x2 + x3)) (tp_w ((M0 (x0 + 20) (tp_w (x2 + x3))) + (tp_w ((M0 (x0 + 14) x2) * (M0 (x0 + 15) x3)))))) fun M21 =>
            tp_lt (tp_w (x3 + 1)) fun y22 =>
            rec_55 y22 M21 else none else none else none else none
set_option maxHeartbeats 4000000 in
set_option maxRecDepth 100000 in
theorem T_X0_raiseImage_55B (G : tp_G) (rec_17 : Int → tp_M → Option (tp_M)) (rec_35 : Int → tp_M → Option (tp_M)) (x0 : Int) (x1 : Int) (x2 : Int) (hrec_17 : ∀ (x1' : Int) (M' : tp_M), tp_J i_X0_raiseImage (tp_rm 2) G 0 0 o_X0_raiseImage tp_NC (tp_st M') 0 0 [some (.inr (.inr x0)), some (.inl (x1')), none, none] 17 [] (rec_17 x1' M')) (hrec_35 : ∀ (x2' : Int) (M' : tp_M), tp_J i_X0_raiseImage (tp_rm 2) G 0 0 o_X0_raiseImage tp_NC (tp_st M') 0 0 [some (.inr (.inr x0)), some (.inl x1), some (.inl (x2')), none] 35 [] (rec_35 x2' M')) (hg_x0 : tp_tg x0 = 0) (rec_55 : Int → tp_M → Option (tp_M)) (hrec_55 : ∀ (x3' : Int) (M' : tp_M), tp_J i_X0_raiseImage (tp_rm 2) G 0 0 o_X0_raiseImage tp_NC (tp_st M') 0 0 [some (.inr (.inr x0)), some (.inl x1), some (.inl x2), some (.inl (x3'))] 55 [] (rec_55 x3' M')) (x3 : Int) (M0 : tp_M) : tp_J i_X0_raiseImage (tp_rm 2) G 0 0 o_X0_raiseImage tp_NC (tp_st M0) 0 0 [some (.inr (.inr x0)), some (.inl x1), some (.inl x2), some (.inl x3)] 55 [] (f_X0_raiseImage_55B rec_17 rec_35 x0 x1 x2 rec_55 x3 M0) := by
  unfold f_X0_raiseImage_55B
  refine j_iload_n rfl d_X0_raiseImage_55 rfl ?_
  refine j_bipush ⟨by decide, by decide⟩ (by decide +kernel) d_X0_raiseImage_56 ?_
  refine j_icmp_ge (tgt := 91) d_X0_raiseImage_58 (by decide) (fun h19 => ?_) (fun h19 => ?_)
  · exact j_wk [true, true, true, false] rfl rfl (T_X0_raiseImage_91 G rec_17 rec_35 x0 x1 x2 M0 hrec_17 hrec_35 hg_x0)
  · refine j_aload_n rfl d_X0_raiseImage_61 rfl ?_
    refine j_getr fl_Factors_44 hg_x0 (fam_0_12 _ hg_x0).1 d_X0_raiseImage_62 ?_
    refine j_iload_n rfl d_X0_raiseImage_65 rfl ?_
    refine j_iload_n rfl d_X0_raiseImage_66 rfl ?_
    refine j_iadd d_X0_raiseImage_67 ?_
    refine j_dup2 d_X0_raiseImage_68 (fun G => tp_cat G _) (fun G => tp_cat G _) ?_
    refine j_iald ((fam_0_12 _ hg_x0).2.1) ((fam_0_12 _ hg_x0).2.2) d_X0_raiseImage_69 ?_
    refine j_aload_n rfl d_X0_raiseImage_70 rfl ?_
    refine j_getr fl_Factors_26 hg_x0 (fam_0_6 _ hg_x0).1 d_X0_raiseImage_71 ?_
    refine j_iload_n rfl d_X0_raiseImage_74 rfl ?_
    refine j_iald ((fam_0_6 _ hg_x0).2.1) ((fam_0_6 _ hg_x0).2.2) d_X0_raiseImage_75 ?_
    refine j_aload_n rfl d_X0_raiseImage_76 rfl ?_
    refine j_getr fl_Factors_29 hg_x0 (fam_0_7 _ hg_x0).1 d_X0_raiseImage_77 ?_
    refine j_iload_n rfl d_X0_raiseImage_80 rfl ?_
    refine j_iald ((fam_0_7 _ hg_x0).2.1) ((fam_0_7 _ hg_x0).2.2) d_X0_raiseImage_81 ?_
    refine j_imul d_X0_raiseImage_82 ?_
    refine j_iadd d_X0_raiseImage_83 ?_
    refine j_iast ((fam_0_12 _ hg_x0).2.1) ((fam_0_12 _ hg_x0).2.2) d_X0_raiseImage_84 (fun M21 hM21 => ?_)
    refine j_iincN (lv' := fun y22 => [some (.inr (.inr x0)), some (.inl x1), some (.inl x2), some (.inl y22)]) d_X0_raiseImage_85 rfl (Nat.le_of_ble_eq_true rfl) (fun _ => rfl) (fun y22 hy22 => ?_)
    refine j_goto (tgt := 55) d_X0_raiseImage_88 (by decide) ?_
    exact j_wk [true, true, true, true] rfl rfl (hrec_55 y22 M21)
def f_X0_raiseImage_55 (rec_17 : Int → tp_M → Option (tp_M)) (rec_35 : Int → tp_M → Option (tp_M)) (x0 : Int) (x1 : Int) (x2 : Int) (x3 : Int) (M0 : tp_M) : Option (tp_M) := tp_lp (σ := Int × tp_M) (fun rec_ u => f_X0_raiseImage_55B rec_17 rec_35 x0 x1 x2 (fun x3' M0' => rec_ (x3', M0')) u.1 u.2) tp_N (x3, M0)
set_option maxHeartbeats 4000000 in
set_option maxRecDepth 100000 in
theorem T_X0_raiseImage_55 (G : tp_G) (rec_17 : Int → tp_M → Option (tp_M)) (rec_35 : Int → tp_M → Option (tp_M)) (x0 : Int) (x1 : Int) (x2 : Int) (x3 : Int) (M0 : tp_M) (hrec_17 : ∀ (x1' : Int) (M' : tp_M), tp_J i_X0_raiseImage (tp_rm 2) G 0 0 o_X0_raiseImage tp_NC (tp_st M') 0 0 [some (.inr (.inr x0)), some (.inl (x1')), none, none] 17 [] (rec_17 x1' M')) (hrec_35 : ∀ (x2' : Int) (M' : tp_M), tp_J i_X0_raiseImage (tp_rm 2) G 0 0 o_X0_raiseImage tp_NC (tp_st M') 0 0 [some (.inr (.inr x0)), some (.inl x1), some (.inl (x2')), none] 35 [] (rec_35 x2' M')) (hg_x0 : tp_tg x0 = 0) : tp_J i_X0_raiseImage (tp_rm 2) G 0 0 o_X0_raiseImage tp_NC (tp_st M0) 0 0 [some (.inr (.inr x0)), some (.inl x1), some (.inl x2), some (.inl x3)] 55 [] (f_X0_raiseImage_55 rec_17 rec_35 x0 x1 x2 x3 M0) := by
  unfold f_X0_raiseImage_55
  exact j_lp (σ := Int × tp_M) (n' := fun _ => tp_NC) (g' := fun u => tp_st u.2) (k' := fun _ => 0) (q' := fun _ => 0) (lv' := fun u => [some (.inr (.inr x0)), some (.inl x1), some (.inl x2), some (.inl u.1)]) (fun rec_ hrec u => T_X0_raiseImage_55B G rec_17 rec_35 x0 x1 x2 hrec_17 hrec_35 hg_x0 (fun x3' M0' => rec_ (x3', M0')) (fun x3' M0' => hrec (x3', M0')) u.1 u.2) tp_N (x3, M0)
def f_X0_raiseImage_35B (rec_17 : Int → tp_M → Option (tp_M)) (x0 : Int) (x1 : Int) (rec_35 : Int → tp_M → Option (tp_M)) (x2 : Int) (M0 : tp_M) : Option (tp_M) :=
  if 9 ≤ x2 then
    f_X0_raiseImage_99 rec_17 x0 x1 0 M0
  else
    if 0 ≤ x2 ∧ x2 < 9 then
      if ¬ (M0 (x0 + 14) x2) = 0 then
        f_X0_raiseImage_55 rec_17 rec_35 x0 x1 x2 0 M0
      else
        f_X0_raiseImage_91 rec_17 rec_35 x0 x1 x2 M0 else none
set_option maxHeartbeats 4000000 in
set_option maxRecDepth 100000 in
theorem T_X0_raiseImage_35B (G : tp_G) (rec_17 : Int → tp_M → Option (tp_M)) (x0 : Int) (x1 : Int) (hrec_17 : ∀ (x1' : Int) (M' : tp_M), tp_J i_X0_raiseImage (tp_rm 2) G 0 0 o_X0_raiseImage tp_NC (tp_st M') 0 0 [some (.inr (.inr x0)), some (.inl (x1')), none, none] 17 [] (rec_17 x1' M')) (hg_x0 : tp_tg x0 = 0) (rec_35 : Int → tp_M → Option (tp_M)) (hrec_35 : ∀ (x2' : Int) (M' : tp_M), tp_J i_X0_raiseImage (tp_rm 2) G 0 0 o_X0_raiseImage tp_NC (tp_st M') 0 0 [some (.inr (.inr x0)), some (.inl x1), some (.inl (x2')), none] 35 [] (rec_35 x2' M')) (x2 : Int) (M0 : tp_M) : tp_J i_X0_raiseImage (tp_rm 2) G 0 0 o_X0_raiseImage tp_NC (tp_st M0) 0 0 [some (.inr (.inr x0)), some (.inl x1), some (.inl x2), none] 35 [] (f_X0_raiseImage_35B rec_17 x0 x1 rec_35 x2 M0) := by
  unfold f_X0_raiseImage_35B
  refine j_iload_n rfl d_X0_raiseImage_35 rfl ?_
  refine j_bipush ⟨by decide, by decide⟩ (by decide +kernel) d_X0_raiseImage_36 ?_
  refine j_icmp_ge (tgt := 97) d_X0_raiseImage_38 (by decide) (fun h6 => ?_) (fun h6 => ?_)
  · refine j_iconst ⟨by decide, by decide⟩ d_X0_raiseImage_97 ?_
    refine j_istore_n (lv' := [some (.inr (.inr x0)), some (.inl x1), some (.inl 0), none]) rfl d_X0_raiseImage_98 (Nat.le_of_ble_eq_true rfl) rfl ?_
    exact j_wk [true, true, true, false] rfl rfl (T_X0_raiseImage_99 G rec_17 x0 x1 0 M0 hrec_17 hg_x0)
  · refine j_aload_n rfl d_X0_raiseImage_41 rfl ?_
    refine j_getr fl_Factors_26 hg_x0 (fam_0_6 _ hg_x0).1 d_X0_raiseImage_42 ?_
    refine j_iload_n rfl d_X0_raiseImage_45 rfl ?_
    refine j_iald ((fam_0_6 _ hg_x0).2.1) ((fam_0_6 _ hg_x0).2.2) d_X0_raiseImage_46 ?_
    refine j_if_ne (tgt := 53) d_X0_raiseImage_47 (by decide) (fun h18 => ?_) (fun h18 => ?_)
    · refine j_iconst ⟨by decide, by decide⟩ d_X0_raiseImage_53 ?_
      refine j_istore_n (lv' := [some (.inr (.inr x0)), some (.inl x1), some (.inl x2), some (.inl 0)]) rfl d_X0_raiseImage_54 (Nat.le_of_ble_eq_true rfl) rfl ?_
      exact j_wk [true, true, true, true] rfl rfl (T_X0_raiseImage_55 G rec_17 rec_35 x0 x1 x2 0 M0 hrec_17 hrec_35 hg_x0)
    · refine j_goto (tgt := 91) d_X0_raiseImage_50 (by decide) ?_
      exact j_wk [true, true, true, false] rfl rfl (T_X0_raiseImage_91 G rec_17 rec_35 x0 x1 x2 M0 hrec_17 hrec_35 hg_x0)
def f_X0_raiseImage_35 (rec_17 : Int → tp_M → Option (tp_M)) (x0 : Int) (x1 : Int) (x2 : Int) (M0 : tp_M) : Option (tp_M) := tp_lp (σ := Int × tp_M) (fun rec_ u => f_X0_raiseImage_35B rec_17 x0 x1 (fun x2' M0' => rec_ (x2', M0')) u.1 u.2) tp_N (x2, M0)
set_option maxHeartbeats 4000000 in
set_option maxRecDepth 100000 in
theorem T_X0_raiseImage_35 (G : tp_G) (rec_17 : Int → tp_M → Option (tp_M)) (x0 : Int) (x1 : Int) (x2 : Int) (M0 : tp_M) (hrec_17 : ∀ (x1' : Int) (M' : tp_M), tp_J i_X0_raiseImage (tp_rm 2) G 0 0 o_X0_raiseImage tp_NC (tp_st M') 0 0 [some (.inr (.inr x0)), some (.inl (x1')), none, none] 17 [] (rec_17 x1' M')) (hg_x0 : tp_tg x0 = 0) : tp_J i_X0_raiseImage (tp_rm 2) G 0 0 o_X0_raiseImage tp_NC (tp_st M0) 0 0 [some (.inr (.inr x0)), some (.inl x1), some (.inl x2), none] 35 [] (f_X0_raiseImage_35 rec_17 x0 x1 x2 M0) := by
  unfold f_X0_raiseImage_35
  exact j_lp (σ := Int × tp_M) (n' := fun _ => tp_NC) (g' := fun u => tp_st u.2) (k' := fun _ => 0) (q' := fun _ => 0) (lv' := fun u => [some (.inr (.inr x0)), some (.inl x1), some (.inl u.1), none]) (fun rec_ hrec u => T_X0_raiseImage_35B G rec_17 x0 x1 hrec_17 hg_x0 (fun x2' M0' => rec_ (x2', M0')) (fun x2' M0' => hrec (x2', M0')) u.1 u.2) tp_N (x2, M0)
def f_X0_raiseImage_17B (x0 : Int) (rec_17 : Int → tp_M → Option (tp_M)) (x1 : Int) (M0 : tp_M) : Option (tp_M) :=
  if (M0 x0 4) ≤ x1 then
    some M0
  else
    (f_J7_fill_53178 (x0 + 20) 0 M0).bind fun r4 =>
    f_X0_raiseImage_35 rec_17 x0 x1 0 r4
set_option maxHeartbeats 4000000 in
set_option maxRecDepth 100000 in
theorem T_X0_raiseImage_17B (G : tp_G) (x0 : Int) (hg_x0 : tp_tg x0 = 0) (rec_17 : Int → tp_M → Option (tp_M)) (hrec_17 : ∀ (x1' : Int) (M' : tp_M), tp_J i_X0_raiseImage (tp_rm 2) G 0 0 o_X0_raiseImage tp_NC (tp_st M') 0 0 [some (.inr (.inr x0)), some (.inl (x1')), none, none] 17 [] (rec_17 x1' M')) (x1 : Int) (M0 : tp_M) : tp_J i_X0_raiseImage (tp_rm 2) G 0 0 o_X0_raiseImage tp_NC (tp_st M0) 0 0 [some (.inr (.inr x0)), some (.inl x1), none, none] 17 [] (f_X0_raiseImage_17B x0 rec_17 x1 M0) := by
  unfold f_X0_raiseImage_17B
  refine j_iload_n rfl d_X0_raiseImage_17 rfl ?_
  refine j_aload_n rfl d_X0_raiseImage_18 rfl ?_
  refine j_geti fl_Factors_51 hg_x0 d_X0_raiseImage_19 ?_
  refine j_icmp_ge (tgt := 170) d_X0_raiseImage_22 (by decide) (fun h3 => ?_) (fun h3 => ?_)
  · exact j_vret d_X0_raiseImage_170 rfl rfl ⟨rfl, rfl⟩
  · refine j_aload_n rfl d_X0_raiseImage_25 rfl ?_
    refine j_getr fl_Factors_44 hg_x0 (fam_0_12 _ hg_x0).1 d_X0_raiseImage_26 ?_
    refine j_iconst ⟨by decide, by decide⟩ d_X0_raiseImage_29 ?_
    refine j_bind (fun r4 h5 => ?_)
    refine j_callS (y := y_J7_fill_53178) (I' := i_J7_fill_53178) (avs := [.inr (.inr (x0 + 20)), .inl 0]) (st := []) (c_J7_fill_53178 G (x0 + 20) 0 M0 r4 h5) cs_Factors_66 wd_587 wd_485 rfl rfl (Nat.le_of_ble_eq_true rfl) ⟨rfl, rfl⟩ ⟨by decide, by decide⟩ ⟨by decide, by decide⟩ d_X0_raiseImage_30 ?_
    refine j_iconst ⟨by decide, by decide⟩ d_X0_raiseImage_33 ?_
    refine j_istore_n (lv' := [some (.inr (.inr x0)), some (.inl x1), some (.inl 0), none]) rfl d_X0_raiseImage_34 (Nat.le_of_ble_eq_true rfl) rfl ?_
    exact j_wk [true, true, true, false] rfl rfl (T_X0_raiseImage_35 G rec_17 x0 x1 0 r4 hrec_17 hg_x0)
def f_X0_raiseImage_17 (x0 : Int) (x1 : Int) (M0 : tp_M) : Option (tp_M) := tp_lp (σ := Int × tp_M) (fun rec_ u => f_X0_raiseImage_17B x0 (fun x1' M0' => rec_ (x1', M0')) u.1 u.2) tp_N (x1, M0)
set_option maxHeartbeats 4000000 in
set_option maxRecDepth 100000 in
theorem T_X0_raiseImage_17 (G : tp_G) (x0 : Int) (x1 : Int) (M0 : tp_M) (hg_x0 : tp_tg x0 = 0) : tp_J i_X0_raiseImage (tp_rm 2) G 0 0 o_X0_raiseImage tp_NC (tp_st M0) 0 0 [some (.inr (.inr x0)), some (.inl x1), none, none] 17 [] (f_X0_raiseImage_17 x0 x1 M0) := by
  unfold f_X0_raiseImage_17
  exact j_lp (σ := Int × tp_M) (n' := fun _ => tp_NC) (g' := fun u => tp_st u.2) (k' := fun _ => 0) (q' := fun _ => 0) (lv' := fun u => [some (.inr (.inr x0)), some (.inl u.1), none, none]) (fun rec_ hrec u => T_X0_raiseImage_17B G x0 hg_x0 (fun x1' M0' => rec_ (x1', M0')) (fun x1' M0' => hrec (x1', M0')) u.1 u.2) tp_N (x1, M0)
def f_X0_raiseImage (c0 : Int) (M0 : tp_M) : Option (tp_M) :=
  if tp_tg c0 = 0 then
    if (0 : Int) ≤ 0 ∧ (0 : Int) ≤ 0 ∧ (0 : Int) ≤ 9 ∧ (0 + 9 : Int) ≤ 9 ∧ (0 + 9 : Int) ≤ 9 then
      tp_mp (tp_cp M0 (c0 + 14) 0 (c0 + 15) 0 9) fun M2 =>
      f_X0_raiseImage_17 c0 1 M2 else none else none
set_option maxHeartbeats 4000000 in
set_option maxRecDepth 100000 in
theorem T_X0_raiseImage (G : tp_G) (c0 : Int) (M0 : tp_M) : tp_J i_X0_raiseImage (tp_rm 2) G 0 0 o_X0_raiseImage tp_NC (tp_st M0) 0 0 [some (.inr (.inr c0)), none, none, none] 0 [] (f_X0_raiseImage c0 M0) := by
  unfold f_X0_raiseImage
  refine tp_chk (fun ht1 => ?_)
  refine j_aload_n rfl d_X0_raiseImage_0 rfl ?_
  refine j_getr fl_Factors_26 ht1 (fam_0_6 _ ht1).1 d_X0_raiseImage_1 ?_
  refine j_iconst ⟨by decide, by decide⟩ d_X0_raiseImage_4 ?_
  refine j_aload_n rfl d_X0_raiseImage_5 rfl ?_
  refine j_getr fl_Factors_29 ht1 (fam_0_7 _ ht1).1 d_X0_raiseImage_6 ?_
  refine j_iconst ⟨by decide, by decide⟩ d_X0_raiseImage_9 ?_
  refine j_bipush ⟨by decide, by decide⟩ (by decide +kernel) d_X0_raiseImage_10 ?_
  refine j_acpi ((fam_0_6 _ ht1).2.1) ((fam_0_6 _ ht1).2.2) ((fam_0_7 _ ht1).2.1) ((fam_0_7 _ ht1).2.2) wd_592 wd_594 wd_593 wd_15 ⟨(by decide : 1 ≤ ((tp_rm 2) : Room).frames), (by decide : 60 ≤ ((tp_rm 2) : Room).locals)⟩ (Nat.le_of_ble_eq_true rfl) d_X0_raiseImage_12 (fun M2 hM2 => ?_)
  refine j_iconst ⟨by decide, by decide⟩ d_X0_raiseImage_15 ?_
  refine j_istore_n (lv' := [some (.inr (.inr c0)), some (.inl 1), none, none]) rfl d_X0_raiseImage_16 (Nat.le_of_ble_eq_true rfl) rfl ?_
  exact j_wk [true, true, false, false] rfl rfl (T_X0_raiseImage_17 G c0 1 M2 ht1)
set_option maxHeartbeats 4000000 in
set_option maxRecDepth 100000 in
theorem c_X0_raiseImage (G : tp_G) (c0 : Int) (M0 : tp_M) (r : tp_M) (h : f_X0_raiseImage c0 M0 = some r) (l : Launch) : Met l y_X0_raiseImage (tp_ws y_X0_raiseImage i_X0_raiseImage) (tp_rm 2) (tp_Pc G [.inr (.inr c0)] tp_NC (tp_st M0)) (tp_Q G (o_X0_raiseImage r)) 0 0 (tp_A G) :=
  tp_met (I := i_X0_raiseImage) (y := y_X0_raiseImage) (by decide +kernel) (Eq.refl "TypesAtPrime$Factors") (Eq.refl "raiseImage") (lv := [some (.inr (.inr c0)), none, none, none]) rfl (Nat.le_of_ble_eq_true rfl) (T_X0_raiseImage G c0 M0) h l
theorem wd_115 : (.fieldLink "TypesAtPrime$Factors" 32 "TypesAtPrime$Factors" "common" "[I" : Cond) ∈ lw_tbl := List.mem_append_right _ (List.mem_of_getElem? (i := 115) (by decide +kernel))
theorem fl_Factors_32 : tp_F "TypesAtPrime$Factors" 32 0 8 2 := ⟨_, _, _, rfl, by decide, rfl, wd_115, rfl, by decide⟩
theorem fam_0_8 : ∀ c : Int, tp_tg c = 0 → tp_rv c 8 = c + 16 ∧ tp_tg (c + 16) = 21 ∧ tp_al (c + 16) = 9 := by
  intro c hc
  obtain ⟨h0, xs, -, h2⟩ := tp_tg_at (t := 0) hc
  have h : (List.range tp_NC).all (fun i => decide (tp_tg (i : Int) = 0 → tp_rv (i : Int) 8 = (i : Int) + 16 ∧ tp_tg ((i : Int) + 16) = 21 ∧ tp_al ((i : Int) + 16) = 9)) = true := by decide +kernel
  have h3 := List.all_eq_true.mp h c.toNat (List.mem_range.mpr h2)
  have h4 : ((c.toNat : Nat) : Int) = c := by omega
  rw [h4] at h3
  exact of_decide_eq_true h3 hc
theorem wd_116 : (.fieldLink "TypesAtPrime$Factors" 35 "TypesAtPrime$Factors" "other" "[I" : Cond) ∈ lw_tbl := List.mem_append_right _ (List.mem_of_getElem? (i := 116) (by decide +kernel))
theorem fl_Factors_35 : tp_F "TypesAtPrime$Factors" 35 0 9 2 := ⟨_, _, _, rfl, by decide, rfl, wd_116, rfl, by decide⟩
theorem fam_0_9 : ∀ c : Int, tp_tg c = 0 → tp_rv c 9 = c + 17 ∧ tp_tg (c + 17) = 21 ∧ tp_al (c + 17) = 9 := by
  intro c hc
  obtain ⟨h0, xs, -, h2⟩ := tp_tg_at (t := 0) hc
  have h : (List.range tp_NC).all (fun i => decide (tp_tg (i : Int) = 0 → tp_rv (i : Int) 9 = (i : Int) + 17 ∧ tp_tg ((i : Int) + 17) = 21 ∧ tp_al ((i : Int) + 17) = 9)) = true := by decide +kernel
  have h3 := List.all_eq_true.mp h c.toNat (List.mem_range.mpr h2)
  have h4 : ((c.toNat : Nat) : Int) = c := by omega
  rw [h4] at h3
  exact of_decide_eq_true h3 hc
theorem wd_586 : (.code ⟨"TypesAtPrime$Factors", "makeMonic", "([I)V"⟩ prog_2_method_4_code 5 (none : Option Jvm.ClassFile.FieldType) : Cond) ∈ lw_tbl := List.mem_append_right _ (List.mem_of_getElem? (i := 586) (by decide +kernel))
theorem cs_Factors_62 : tp_CS "TypesAtPrime$Factors" 62 y_X0_makeMonic i_X0_makeMonic 1 := ⟨wd_586, wd_5, by decide, by decide, by decide +kernel⟩
theorem wd_583 : (.methodLink "TypesAtPrime$Factors" 62 ⟨"TypesAtPrime$Factors", "makeMonic", "([I)V"⟩ : Cond) ∈ lw_tbl := List.mem_append_right _ (List.mem_of_getElem? (i := 583) (by decide +kernel))
theorem wd_585 : (.instanceMethod ⟨"TypesAtPrime$Factors", "makeMonic", "([I)V"⟩ : Cond) ∈ lw_tbl := List.mem_append_right _ (List.mem_of_getElem? (i := 585) (by decide +kernel))
theorem ws_8 : (.selects "TypesAtPrime$Factors" ⟨"TypesAtPrime$Factors", "makeMonic", "([I)V"⟩ ⟨"TypesAtPrime$Factors", "makeMonic", "([I)V"⟩ : Cond) ∈ lw_tbl := List.mem_append_left _ (List.mem_of_getElem? (i := 8) (by decide +kernel))
def y_X0_takeCommon : MethodName := ⟨"TypesAtPrime$Factors", "takeCommon", "()V"⟩
abbrev i_X0_takeCommon : tp_I := (prog_2_method_8_code, "TypesAtPrime$Factors", none, 5, "takeCommon")
abbrev o_X0_takeCommon : tp_M → tp_O := fun r => (none, tp_NC, tp_st r)
theorem d_X0_takeCommon_0 : decode prog_2_method_8_code 0 = .ok (.aload_n 0, 1) := by decide +kernel
theorem d_X0_takeCommon_1 : decode prog_2_method_8_code 1 = .ok (.getfield 32, 3) := by decide +kernel
theorem d_X0_takeCommon_4 : decode prog_2_method_8_code 4 = .ok (.astore_n 1, 1) := by decide +kernel
theorem d_X0_takeCommon_5 : decode prog_2_method_8_code 5 = .ok (.aload_n 0, 1) := by decide +kernel
theorem d_X0_takeCommon_6 : decode prog_2_method_8_code 6 = .ok (.getfield 35, 3) := by decide +kernel
theorem d_X0_takeCommon_9 : decode prog_2_method_8_code 9 = .ok (.astore_n 2, 1) := by decide +kernel
theorem d_X0_takeCommon_10 : decode prog_2_method_8_code 10 = .ok (.aload_n 0, 1) := by decide +kernel
theorem d_X0_takeCommon_11 : decode prog_2_method_8_code 11 = .ok (.getfield 23, 3) := by decide +kernel
theorem d_X0_takeCommon_14 : decode prog_2_method_8_code 14 = .ok (.iconst 0, 1) := by decide +kernel
theorem d_X0_takeCommon_15 : decode prog_2_method_8_code 15 = .ok (.aload_n 1, 1) := by decide +kernel
theorem d_X0_takeCommon_16 : decode prog_2_method_8_code 16 = .ok (.iconst 0, 1) := by decide +kernel
theorem d_X0_takeCommon_17 : decode prog_2_method_8_code 17 = .ok (.bipush 9, 2) := by decide +kernel
theorem d_X0_takeCommon_19 : decode prog_2_method_8_code 19 = .ok (.invokestatic 98, 3) := by decide +kernel
theorem d_X0_takeCommon_22 : decode prog_2_method_8_code 22 = .ok (.aload_n 0, 1) := by decide +kernel
theorem d_X0_takeCommon_23 : decode prog_2_method_8_code 23 = .ok (.getfield 26, 3) := by decide +kernel
theorem d_X0_takeCommon_26 : decode prog_2_method_8_code 26 = .ok (.iconst 0, 1) := by decide +kernel
theorem d_X0_takeCommon_27 : decode prog_2_method_8_code 27 = .ok (.aload_n 2, 1) := by decide +kernel
theorem d_X0_takeCommon_28 : decode prog_2_method_8_code 28 = .ok (.iconst 0, 1) := by decide +kernel
theorem d_X0_takeCommon_29 : decode prog_2_method_8_code 29 = .ok (.bipush 9, 2) := by decide +kernel
theorem d_X0_takeCommon_31 : decode prog_2_method_8_code 31 = .ok (.invokestatic 98, 3) := by decide +kernel
theorem d_X0_takeCommon_34 : decode prog_2_method_8_code 34 = .ok (.aload_n 2, 1) := by decide +kernel
theorem d_X0_takeCommon_35 : decode prog_2_method_8_code 35 = .ok (.iconst 1, 1) := by decide +kernel
theorem d_X0_takeCommon_36 : decode prog_2_method_8_code 36 = .ok (.aload_n 0, 1) := by decide +kernel
theorem d_X0_takeCommon_37 : decode prog_2_method_8_code 37 = .ok (.aload_n 2, 1) := by decide +kernel
theorem d_X0_takeCommon_38 : decode prog_2_method_8_code 38 = .ok (.iconst 1, 1) := by decide +kernel
theorem d_X0_takeCommon_39 : decode prog_2_method_8_code 39 = .ok (.iaload, 1) := by decide +kernel
theorem d_X0_takeCommon_40 : decode prog_2_method_8_code 40 = .ok (.iconst 1, 1) := by decide +kernel
theorem d_X0_takeCommon_41 : decode prog_2_method_8_code 41 = .ok (.isub, 1) := by decide +kernel
theorem d_X0_takeCommon_42 : decode prog_2_method_8_code 42 = .ok (.invokevirtual 54, 3) := by decide +kernel
theorem d_X0_takeCommon_45 : decode prog_2_method_8_code 45 = .ok (.iastore, 1) := by decide +kernel
theorem d_X0_takeCommon_46 : decode prog_2_method_8_code 46 = .ok (.iconst 0, 1) := by decide +kernel
theorem d_X0_takeCommon_47 : decode prog_2_method_8_code 47 = .ok (.istore_n 3, 1) := by decide +kernel
theorem d_X0_takeCommon_48 : decode prog_2_method_8_code 48 = .ok (.iload_n 3, 1) := by decide +kernel
theorem d_X0_takeCommon_49 : decode prog_2_method_8_code 49 = .ok (.bipush 9, 2) := by decide +kernel
theorem d_X0_takeCommon_51 : decode prog_2_method_8_code 51 = .ok (.if_icmp .gt 39, 3) := by decide +kernel
theorem d_X0_takeCommon_54 : decode prog_2_method_8_code 54 = .ok (.aload_n 2, 1) := by decide +kernel
theorem d_X0_takeCommon_55 : decode prog_2_method_8_code 55 = .ok (.invokestatic 58, 3) := by decide +kernel
theorem d_X0_takeCommon_58 : decode prog_2_method_8_code 58 = .ok (.ifCond .lt 32, 3) := by decide +kernel
theorem d_X0_takeCommon_61 : decode prog_2_method_8_code 61 = .ok (.aload_n 0, 1) := by decide +kernel
theorem d_X0_takeCommon_62 : decode prog_2_method_8_code 62 = .ok (.aload_n 2, 1) := by decide +kernel
theorem d_X0_takeCommon_63 : decode prog_2_method_8_code 63 = .ok (.invokevirtual 62, 3) := by decide +kernel
theorem d_X0_takeCommon_66 : decode prog_2_method_8_code 66 = .ok (.aload_n 0, 1) := by decide +kernel
theorem d_X0_takeCommon_67 : decode prog_2_method_8_code 67 = .ok (.aload_n 1, 1) := by decide +kernel
theorem d_X0_takeCommon_68 : decode prog_2_method_8_code 68 = .ok (.aload_n 2, 1) := by decide +kernel
theorem d_X0_takeCommon_69 : decode prog_2_method_8_code 69 = .ok (.aload_n 2, 1) := by decide +kernel
theorem d_X0_takeCommon_70 : decode prog_2_method_8_code 70 = .ok (.invokestatic 58, 3) := by decide +kernel
theorem d_X0_takeCommon_73 : decode prog_2_method_8_code 73 = .ok (.invokevirtual 82, 3) := by decide +kernel
theorem d_X0_takeCommon_76 : decode prog_2_method_8_code 76 = .ok (.aload_n 1, 1) := by decide +kernel
theorem d_X0_takeCommon_77 : decode prog_2_method_8_code 77 = .ok (.astore 4, 2) := by decide +kernel
theorem d_X0_takeCommon_79 : decode prog_2_method_8_code 79 = .ok (.aload_n 2, 1) := by decide +kernel
theorem d_X0_takeCommon_80 : decode prog_2_method_8_code 80 = .ok (.astore_n 1, 1) := by decide +kernel
theorem d_X0_takeCommon_81 : decode prog_2_method_8_code 81 = .ok (.aload 4, 2) := by decide +kernel
theorem d_X0_takeCommon_83 : decode prog_2_method_8_code 83 = .ok (.astore_n 2, 1) := by decide +kernel
theorem d_X0_takeCommon_84 : decode prog_2_method_8_code 84 = .ok (.iinc 3 1, 3) := by decide +kernel
theorem d_X0_takeCommon_87 : decode prog_2_method_8_code 87 = .ok (.goto (-39), 3) := by decide +kernel
theorem d_X0_takeCommon_90 : decode prog_2_method_8_code 90 = .ok (.aload_n 1, 1) := by decide +kernel
theorem d_X0_takeCommon_91 : decode prog_2_method_8_code 91 = .ok (.iconst 0, 1) := by decide +kernel
theorem d_X0_takeCommon_92 : decode prog_2_method_8_code 92 = .ok (.aload_n 0, 1) := by decide +kernel
theorem d_X0_takeCommon_93 : decode prog_2_method_8_code 93 = .ok (.getfield 32, 3) := by decide +kernel
theorem d_X0_takeCommon_96 : decode prog_2_method_8_code 96 = .ok (.iconst 0, 1) := by decide +kernel
theorem d_X0_takeCommon_97 : decode prog_2_method_8_code 97 = .ok (.bipush 9, 2) := by decide +kernel
theorem d_X0_takeCommon_99 : decode prog_2_method_8_code 99 = .ok (.invokestatic 98, 3) := by decide +kernel
theorem d_X0_takeCommon_102 : decode prog_2_method_8_code 102 = .ok (.return_, 1) := by decide +kernel
def f_X0_takeCommon_90 (x0 : Int) (x1 : Int) (M0 : tp_M) : Option (tp_M) :=
  if (0 : Int) ≤ 0 ∧ (0 : Int) ≤ 0 ∧ (0 : Int) ≤ 9 ∧ (0 + 9 : Int) ≤ 9 ∧ (0 + 9 : Int) ≤ 9 then
    tp_mp (tp_cp M0 x1 0 (x0 + 16) 0 9) fun M14 =>
    some M14 else none
set_option maxHeartbeats 4000000 in
set_option maxRecDepth 100000 in
theorem T_X0_takeCommon_90 (G : tp_G) (x0 : Int) (x1 : Int) (M0 : tp_M) (hg_x0 : tp_tg x0 = 0) (hg_x1 : tp_tg x1 = 21) (hn_x1 : tp_al x1 = 9) : tp_J i_X0_takeCommon (tp_rm 2) G 0 0 o_X0_takeCommon tp_NC (tp_st M0) 0 0 [some (.inr (.inr x0)), some (.inr (.inr x1)), none, none, none] 90 [] (f_X0_takeCommon_90 x0 x1 M0) := by
  unfold f_X0_takeCommon_90
  refine j_aload_n rfl d_X0_takeCommon_90 rfl ?_
  refine j_iconst ⟨by decide, by decide⟩ d_X0_takeCommon_91 ?_
  refine j_aload_n rfl d_X0_takeCommon_92 rfl ?_
  refine j_getr fl_Factors_32 hg_x0 (fam_0_8 _ hg_x0).1 d_X0_takeCommon_93 ?_
  refine j_iconst ⟨by decide, by decide⟩ d_X0_takeCommon_96 ?_
  refine j_bipush ⟨by decide, by decide⟩ (by decide +kernel) d_X0_takeCommon_97 ?_
  refine j_acpi hg_x1 hn_x1 ((fam_0_8 _ hg_x0).2.1) ((fam_0_8 _ hg_x0).2.2) wd_592 wd_594 wd_593 wd_15 ⟨(by decide : 1 ≤ ((tp_rm 2) : Room).frames), (by decide : 60 ≤ ((tp_rm 2) : Room).locals)⟩ (Nat.le_of_ble_eq_true rfl) d_X0_takeCommon_99 (fun M14 hM14 => ?_)
  exact j_vret d_X0_takeCommon_102 rfl rfl ⟨rfl, rfl⟩
def f_X0_takeCommon_48B (x0 : Int) (rec_48 : Int → Int → Int → tp_M → Option (tp_M)) (x1 : Int) (x2 : Int) (x3 : Int) (M0 : tp_M) : Option (tp_M) :=
  if 9 < x3 then
    f_X0_takeCommon_90 x0 x1 M0
  else
    (f_X10_degreeOf x2 M0).bind fun r15 =>
    if r15 < 0 then
      f_X0_takeCommon_90 x0 x1 M0
    else
      (f_X0_makeMonic x0 x2 M0).bind fun r18 =>
      (f_X10_degreeOf x2 r18).bind fun r20 =>
      (f_X0_keepRemainder x0 x1 x2 r20 r18).bind fun r22 =>
      tp_lt (tp_w (x3 + 1)) fun y24 =>
      rec_48 x2 x1 y24 r22
set_option maxHeartbeats 4000000 in
set_option maxRecDepth 100000 in
theorem T_X0_takeCommon_48B (G : tp_G) (x0 : Int) (hg_x0 : tp_tg x0 = 0) (rec_48 : Int → Int → Int → tp_M → Option (tp_M)) (hrec_48 : ∀ (x1' x2' x3' : Int) (M' : tp_M), tp_tg x1' = 21 → tp_al x1' = 9 → tp_tg x2' = 21 → tp_al x2' = 9 → tp_J i_X0_takeCommon (tp_rm 2) G 0 0 o_X0_takeCommon tp_NC (tp_st M') 0 0 [some (.inr (.inr x0)), some (.inr (.inr (x1'))), some (.inr (.inr (x2'))), some (.inl (x3')), none] 48 [] (rec_48 x1' x2' x3' M')) (x1 : Int) (x2 : Int) (x3 : Int) (M0 : tp_M) (hg_x1 : tp_tg x1 = 21) (hn_x1 : tp_al x1 = 9) (hg_x2 : tp_tg x2 = 21) (hn_x2 : tp_al x2 = 9) : tp_J i_X0_takeCommon (tp_rm 2) G 0 0 o_X0_takeCommon tp_NC (tp_st M0) 0 0 [some (.inr (.inr x0)), some (.inr (.inr x1)), some (.inr (.inr x2)), some (.inl x3), none] 48 [] (f_X0_takeCommon_48B x0 rec_48 x1 x2 x3 M0) := by
  unfold f_X0_takeCommon_48B
  refine j_iload_n rfl d_X0_takeCommon_48 rfl ?_
  refine j_bipush ⟨by decide, by decide⟩ (by decide +kernel) d_X0_takeCommon_49 ?_
  refine j_icmp_gt (tgt := 90) d_X0_takeCommon_51 (by decide) (fun h13 => ?_) (fun h13 => ?_)
  · exact j_wk [true, true, false, false, false] rfl rfl (T_X0_takeCommon_90 G x0 x1 M0 hg_x0 hg_x1 hn_x1)
  · refine j_aload_n rfl d_X0_takeCommon_54 rfl ?_
    refine j_bind (fun r15 h16 => ?_)
    refine j_callSN (y := y_X10_degreeOf) (I' := i_X10_degreeOf) (avs := [.inr (.inr x2)]) (st := []) (c_X10_degreeOf G x2 M0 r15 h16) cs_Factors_58 (by decide +kernel : (.methodLinkNest "TypesAtPrime$Factors" 58 ⟨"TypesAtPrime", "degreeOf", "([I)I"⟩ "TypesAtPrime" : Cond) ∈ tp_nest) wd_517 rfl rfl (Nat.le_of_ble_eq_true rfl) ⟨rfl, rfl⟩ ⟨by decide, by decide⟩ ⟨by decide, by decide⟩ d_X0_takeCommon_55 ?_
    refine j_if_lt (tgt := 90) d_X0_takeCommon_58 (by decide) (fun h17 => ?_) (fun h17 => ?_)
    · exact j_wk [true, true, false, false, false] rfl rfl (T_X0_takeCommon_90 G x0 x1 M0 hg_x0 hg_x1 hn_x1)
    · refine j_aload_n rfl d_X0_takeCommon_61 rfl ?_
      refine j_aload_n rfl d_X0_takeCommon_62 rfl ?_
      refine j_bind (fun r18 h19 => ?_)
      refine j_callV (y := y_X0_makeMonic) (I' := i_X0_makeMonic) (avs := [.inr (.inr x2)]) (c := x0) (st := []) (c_X0_makeMonic G x0 x2 M0 r18 h19) cs_Factors_62 wd_583 wd_585 ws_8 hg_x0 rfl rfl rfl (Nat.le_of_ble_eq_true rfl) ⟨rfl, rfl⟩ ⟨by decide, by decide⟩ ⟨by decide, by decide⟩ d_X0_takeCommon_63 ?_
      refine j_aload_n rfl d_X0_takeCommon_66 rfl ?_
      refine j_aload_n rfl d_X0_takeCommon_67 rfl ?_
      refine j_aload_n rfl d_X0_takeCommon_68 rfl ?_
      refine j_aload_n rfl d_X0_takeCommon_69 rfl ?_
      refine j_bind (fun r20 h21 => ?_)
      refine j_callSN (y := y_X10_degreeOf) (I' := i_X10_degreeOf) (avs := [.inr (.inr x2)]) (st := [.inr (.inr x2), .inr (.inr x1), .inr (.inr x0)]) (c_X10_degreeOf G x2 r18 r20 h21) cs_Factors_58 (by decide +kernel : (.methodLinkNest "TypesAtPrime$Factors" 58 ⟨"TypesAtPrime", "degreeOf", "([I)I"⟩ "TypesAtPrime" : Cond) ∈ tp_nest) wd_517 rfl rfl (Nat.le_of_ble_eq_true rfl) ⟨rfl, rfl⟩ ⟨by decide, by decide⟩ ⟨by decide, by decide⟩ d_X0_takeCommon_70 ?_
      refine j_bind (fun r22 h23 => ?_)
      refine j_callV (y := y_X0_keepRemainder) (I' := i_X0_keepRemainder) (avs := [.inr (.inr x1), .inr (.inr x2), .inl r20]) (c := x0) (st := []) (c_X0_keepRemainder G x0 x1 x2 r20 r18 r22 h23) cs_Factors_82 wd_595 wd_597 ws_10 hg_x0 rfl rfl rfl (Nat.le_of_ble_eq_true rfl) ⟨rfl, rfl⟩ ⟨by decide, by decide⟩ ⟨by decide, by decide⟩ d_X0_takeCommon_73 ?_
      refine j_aload_n rfl d_X0_takeCommon_76 rfl ?_
      refine j_astore (lv' := [some (.inr (.inr x0)), some (.inr (.inr x1)), some (.inr (.inr x2)), some (.inl x3), some (.inr (.inr x1))]) d_X0_takeCommon_77 (Nat.le_of_ble_eq_true rfl) rfl ?_
      refine j_aload_n rfl d_X0_takeCommon_79 rfl ?_
      refine j_astore_n (lv' := [some (.inr (.inr x0)), some (.inr (.inr x2)), some (.inr (.inr x2)), some (.inl x3), some (.inr (.inr x1))]) rfl d_X0_takeCommon_80 (Nat.le_of_ble_eq_true rfl) rfl ?_
      refine j_aload d_X0_takeCommon_81 rfl ?_
      refine j_astore_n (lv' := [some (.inr (.inr x0)), some (.inr (.inr x2)), some (.inr (.inr x1)), some (.inl x3), some (.inr (.inr x1))]) rfl d_X0_takeCommon_83 (Nat.le_of_ble_eq_true rfl) rfl ?_
      refine j_iincN (lv' := fun y24 => [some (.inr (.inr x0)), some (.inr (.inr x2)), some (.inr (.inr x1)), some (.inl y24), some (.inr (.inr x1))]) d_X0_takeCommon_84 rfl (Nat.le_of_ble_eq_true rfl) (fun _ => rfl) (fun y24 hy24 => ?_)
      refine j_goto (tgt := 48) d_X0_takeCommon_87 (by decide) ?_
      exact j_wk [true, true, true, true, false] rfl rfl (hrec_48 x2 x1 y24 r22 hg_x2 hn_x2 hg_x1 hn_x1)
def f_X0_takeCommon_48 (x0 : Int) (x1 : Int) (x2 : Int) (x3 : Int) (M0 : tp_M) : Option (tp_M) := tp_lp (σ := Int × Int × Int × tp_M) (fun rec_ u => f_X0_takeCommon_48B x0 (fun x1' x2' x3' M0' => rec_ (x1', x2', x3', M0')) u.1 u.2.1 u.2.2.1 u.2.2.2) tp_N (x1, x2, x3, M0)
set_option maxHeartbeats 4000000 in
set_option maxRecDepth 100000 in
theorem T_X0_takeCommon_48 (G : tp_G) (x0 : Int) (x1 : Int) (x2 : Int) (x3 : Int) (M0 : tp_M) (hg_x0 : tp_tg x0 = 0) (hg_x1 : tp_tg x1 = 21) (hn_x1 : tp_al x1 = 9) (hg_x2 : tp_tg x2 = 21) (hn_x2 : tp_al x2 = 9) : tp_J i_X0_takeCommon (tp_rm 2) G 0 0 o_X0_takeCommon tp_NC (tp_st M0) 0 0 [some (.inr (.inr x0)), some (.inr (.inr x1)), some (.inr (.inr x2)), some (.inl x3), none] 48 [] (f_X0_takeCommon_48 x0 x1 x2 x3 M0) := by
  unfold f_X0_takeCommon_48
  exact j_lpP (σ := Int × Int × Int × tp_M) (P := fun u => tp_tg u.1 = 21 ∧ tp_al u.1 = 9 ∧ tp_tg u.2.1 = 21 ∧ tp_al u.2.1 = 9) (n' := fun _ => tp_NC) (g' := fun u => tp_st u.2.2.2) (k' := fun _ => 0) (q' := fun _ => 0) (lv' := fun u => [some (.inr (.inr x0)), some (.inr (.inr u.1)), some (.inr (.inr u.2.1)), some (.inl u.2.2.1), none]) (fun rec_ hrec u hu => T_X0_takeCommon_48B G x0 hg_x0 (fun x1' x2' x3' M0' => rec_ (x1', x2', x3', M0')) (fun x1' x2' x3' M0' hg_x1' hn_x1' hg_x2' hn_x2' => hrec (x1', x2', x3', M0') ⟨hg_x1', hn_x1', hg_x2', hn_x2'⟩) u.1 u.2.1 u.2.2.1 u.2.2.2 hu.1 hu.2.1 hu.2.2.1 hu.2.2.2) tp_N (x1, x2, x3, M0) ⟨hg_x1, hn_x1, hg_x2, hn_x2⟩
def f_X0_takeCommon (c0 : Int) (M0 : tp_M) : Option (tp_M) :=
  if tp_tg c0 = 0 then
    tp_lt ((c0 + 16)) fun y2 =>
    tp_lt ((c0 + 17)) fun y5 =>
    if (0 : Int) ≤ 0 ∧ (0 : Int) ≤ 0 ∧ (0 : Int) ≤ 9 ∧ (0 + 9 : Int) ≤ 9 ∧ (0 + 9 : Int) ≤ 9 then
      tp_mp (tp_cp M0 (c0 + 13) 0 y2 0 9) fun M8 =>
      if (0 : Int) ≤ 0 ∧ (0 : Int) ≤ 0 ∧ (0 : Int) ≤ 9 ∧ (0 + 9 : Int) ≤ 9 ∧ (0 + 9 : Int) ≤ 9 then
        tp_mp (tp_cp M8 (c0 + 14) 0 y5 0 9) fun M9 =>
        if (0 : Int) ≤ 1 ∧ (1 : Int) < 9 then
          (f_X0_residue c0 (tp_w ((M9 y5 1) - 1)) M9).bind fun r10 =>
          if (0 : Int) ≤ 1 ∧ (1 : Int) < 9 then
            tp_mp (tp_up M9 y5 1 r10) fun M12 =>
            f_X0_takeCommon_48 c0 y2 y5 0 M12 else none else none else none else none else none
set_option maxHeartbeats 4000000 in
set_option maxRecDepth 100000 in
theorem T_X0_takeCommon (G : tp_G) (c0 : Int) (M0 : tp_M) : tp_J i_X0_takeCommon (tp_rm 2) G 0 0 o_X0_takeCommon tp_NC (tp_st M0) 0 0 [some (.inr (.inr c0)), none, none, none, none] 0 [] (f_X0_takeCommon c0 M0) := by
  unfold f_X0_takeCommon
  refine tp_chk (fun ht1 => ?_)
  refine j_aload_n rfl d_X0_takeCommon_0 rfl ?_
  refine j_getr fl_Factors_32 ht1 (fam_0_8 _ ht1).1 d_X0_takeCommon_1 ?_
  refine j_nmR (fun y2 hy2 => ?_)
  have ht3 : tp_tg y2 = 21 := by rw [hy2]; exact (fam_0_8 _ ht1).2.1
  have hn4 : tp_al y2 = 9 := by rw [hy2]; exact (fam_0_8 _ ht1).2.2
  refine j_astore_n (lv' := [some (.inr (.inr c0)), some (.inr (.inr y2)), none, none, none]) rfl d_X0_takeCommon_4 (Nat.le_of_ble_eq_true rfl) rfl ?_
  refine j_aload_n rfl d_X0_takeCommon_5 rfl ?_
  refine j_getr fl_Factors_35 ht1 (fam_0_9 _ ht1).1 d_X0_takeCommon_6 ?_
  refine j_nmR (fun y5 hy5 => ?_)
  have ht6 : tp_tg y5 = 21 := by rw [hy5]; exact (fam_0_9 _ ht1).2.1
  have hn7 : tp_al y5 = 9 := by rw [hy5]; exact (fam_0_9 _ ht1).2.2
  refine j_astore_n (lv' := [some (.inr (.inr c0)), some (.inr (.inr y2)), some (.inr (.inr y5)), none, none]) rfl d_X0_takeCommon_9 (Nat.le_of_ble_eq_true rfl) rfl ?_
  refine j_aload_n rfl d_X0_takeCommon_10 rfl ?_
  refine j_getr fl_Factors_23 ht1 (fam_0_5 _ ht1).1 d_X0_takeCommon_11 ?_
  refine j_iconst ⟨by decide, by decide⟩ d_X0_takeCommon_14 ?_
  refine j_aload_n rfl d_X0_takeCommon_15 rfl ?_
  refine j_iconst ⟨by decide, by decide⟩ d_X0_takeCommon_16 ?_
  refine j_bipush ⟨by decide, by decide⟩ (by decide +kernel) d_X0_takeCommon_17 ?_
  refine j_acpi ((fam_0_5 _ ht1).2.1) ((fam_0_5 _ ht1).2.2) ht3 hn4 wd_592 wd_594 wd_593 wd_15 ⟨(by decide : 1 ≤ ((tp_rm 2) : Room).frames), (by decide : 60 ≤ ((tp_rm 2) : Room).locals)⟩ (Nat.le_of_ble_eq_true rfl) d_X0_takeCommon_19 (fun M8 hM8 => ?_)
  refine j_aload_n rfl d_X0_takeCommon_22 rfl ?_
  refine j_getr fl_Factors_26 ht1 (fam_0_6 _ ht1).1 d_X0_takeCommon_23 ?_
  refine j_iconst ⟨by decide, by decide⟩ d_X0_takeCommon_26 ?_
  refine j_aload_n rfl d_X0_takeCommon_27 rfl ?_
  refine j_iconst ⟨by decide, by decide⟩ d_X0_takeCommon_28 ?_
  refine j_bipush ⟨by decide, by decide⟩ (by decide +kernel) d_X0_takeCommon_29 ?_
  refine j_acpi ((fam_0_6 _ ht1).2.1) ((fam_0_6 _ ht1).2.2) ht6 hn7 wd_592 wd_594 wd_593 wd_15 ⟨(by decide : 1 ≤ ((tp_rm 2) : Room).frames), (by decide : 60 ≤ ((tp_rm 2) : Room).locals)⟩ (Nat.le_of_ble_eq_true rfl) d_X0_takeCommon_31 (fun M9 hM9 => ?_)
  refine j_aload_n rfl d_X0_takeCommon_34 rfl ?_
  refine j_iconst ⟨by decide, by decide⟩ d_X0_takeCommon_35 ?_
  refine j_aload_n rfl d_X0_takeCommon_36 rfl ?_
  refine j_aload_n rfl d_X0_takeCommon_37 rfl ?_
  refine j_iconst ⟨by decide, by decide⟩ d_X0_takeCommon_38 ?_
  refine j_iald ht6 hn7 d_X0_takeCommon_39 ?_
  refine j_iconst ⟨by decide, by decide⟩ d_X0_takeCommon_40 ?_
  refine j_isub d_X0_takeCommon_41 ?_
  refine j_bind (fun r10 h11 => ?_)
  refine j_callV (y := y_X0_residue) (I' := i_X0_residue) (avs := [.inl (tp_w ((M9 y5 1) - 1))]) (c := c0) (st := [.inl 1, .inr (.inr y5)]) (c_X0_residue G c0 (tp_w ((M9 y5 1) - 1)) M9 r10 h11) cs_Factors_54 wd_578 wd_580 ws_7 ht1 rfl rfl rfl (Nat.le_of_ble_eq_true rfl) ⟨rfl, rfl⟩ ⟨by decide, by decide⟩ ⟨by decide, by decide⟩ d_X0_takeCommon_42 ?_
  refine j_iast ht6 hn7 d_X0_takeCommon_45 (fun M12 hM12 => ?_)
  refine j_iconst ⟨by decide, by decide⟩ d_X0_takeCommon_46 ?_
  refine j_istore_n (lv' := [some (.inr (.inr c0)), some (.inr (.inr y2)), some (.inr (.inr y5)), some (.inl 0), none]) rfl d_X0_takeCommon_47 (Nat.le_of_ble_eq_true rfl) rfl ?_
  exact j_wk [true, true, true, true, false] rfl rfl (T_X0_takeCommon_48 G c0 y2 y5 0 M12 ht1 ht3 hn4 ht6 hn7)
set_option maxHeartbeats 4000000 in
set_option maxRecDepth 100000 in
theorem c_X0_takeCommon (G : tp_G) (c0 : Int) (M0 : tp_M) (r : tp_M) (h : f_X0_takeCommon c0 M0 = some r) (l : Launch) : Met l y_X0_takeCommon (tp_ws y_X0_takeCommon i_X0_takeCommon) (tp_rm 2) (tp_Pc G [.inr (.inr c0)] tp_NC (tp_st M0)) (tp_Q G (o_X0_takeCommon r)) 0 0 (tp_A G) :=
  tp_met (I := i_X0_takeCommon) (y := y_X0_takeCommon) (by decide +kernel) (Eq.refl "TypesAtPrime$Factors") (Eq.refl "takeCommon") (lv := [some (.inr (.inr c0)), none, none, none, none]) rfl (Nat.le_of_ble_eq_true rfl) (T_X0_takeCommon G c0 M0) h l
def y_X10_remainder : MethodName := ⟨"TypesAtPrime", "remainder", "(II)I"⟩
abbrev i_X10_remainder : tp_I := (prog_1_method_51_code, "TypesAtPrime", (some .int), 2, "remainder")
abbrev o_X10_remainder (M : tp_M) : Int → tp_O := fun r => (some (.inl r), tp_NC, tp_st M)
theorem d_X10_remainder_0 : decode prog_1_method_51_code 0 = .ok (.iload_n 1, 1) := by decide +kernel
theorem d_X10_remainder_1 : decode prog_1_method_51_code 1 = .ok (.ifCond .ne 7, 3) := by decide +kernel
theorem d_X10_remainder_4 : decode prog_1_method_51_code 4 = .ok (.iconst 0, 1) := by decide +kernel
theorem d_X10_remainder_5 : decode prog_1_method_51_code 5 = .ok (.goto 6, 3) := by decide +kernel
theorem d_X10_remainder_8 : decode prog_1_method_51_code 8 = .ok (.iload_n 0, 1) := by decide +kernel
theorem d_X10_remainder_9 : decode prog_1_method_51_code 9 = .ok (.iload_n 1, 1) := by decide +kernel
theorem d_X10_remainder_10 : decode prog_1_method_51_code 10 = .ok (.irem, 1) := by decide +kernel
theorem d_X10_remainder_11 : decode prog_1_method_51_code 11 = .ok (.ireturn, 1) := by decide +kernel
def f_X10_remainder (a0 : Int) (a1 : Int) (M0 : tp_M) : Option (Int) :=
  if ¬ a1 = 0 then
    if a1 = 0 then none else
      some (Int.tmod a0 a1)
  else
    some 0
set_option maxHeartbeats 4000000 in
set_option maxRecDepth 100000 in
theorem T_X10_remainder (G : tp_G) (a0 : Int) (a1 : Int) (M0 : tp_M) : tp_J i_X10_remainder (tp_rm 0) G 0 0 (o_X10_remainder M0) tp_NC (tp_st M0) 0 0 [some (.inl a0), some (.inl a1)] 0 [] (f_X10_remainder a0 a1 M0) := by
  unfold f_X10_remainder
  refine j_iload_n rfl d_X10_remainder_0 rfl ?_
  refine j_if_ne (tgt := 8) d_X10_remainder_1 (by decide) (fun h1 => ?_) (fun h1 => ?_)
  · refine j_iload_n rfl d_X10_remainder_8 rfl ?_
    refine j_iload_n rfl d_X10_remainder_9 rfl ?_
    refine j_irem d_X10_remainder_10 ?_
    exact j_iret d_X10_remainder_11 rfl rfl ⟨rfl, rfl⟩
  · refine j_iconst ⟨by decide, by decide⟩ d_X10_remainder_4 ?_
    refine j_goto (tgt := 11) d_X10_remainder_5 (by decide) ?_
    exact j_iret d_X10_remainder_11 rfl rfl ⟨rfl, rfl⟩
set_option maxHeartbeats 4000000 in
set_option maxRecDepth 100000 in
theorem c_X10_remainder (G : tp_G) (a0 : Int) (a1 : Int) (M0 : tp_M) (r : Int) (h : f_X10_remainder a0 a1 M0 = some r) (l : Launch) : Met l y_X10_remainder (tp_ws y_X10_remainder i_X10_remainder) (tp_rm 0) (tp_Pc G [.inl a0, .inl a1] tp_NC (tp_st M0)) (tp_Q G ((o_X10_remainder M0) r)) 0 0 (tp_A G) :=
  tp_met (I := i_X10_remainder) (y := y_X10_remainder) (by decide +kernel) (Eq.refl "TypesAtPrime") (Eq.refl "remainder") (lv := [some (.inl a0), some (.inl a1)]) rfl (Nat.le_of_ble_eq_true rfl) (T_X10_remainder G a0 a1 M0) h l
def y_X10_quotient : MethodName := ⟨"TypesAtPrime", "quotient", "(II)I"⟩
abbrev i_X10_quotient : tp_I := (prog_1_method_50_code, "TypesAtPrime", (some .int), 2, "quotient")
abbrev o_X10_quotient (M : tp_M) : Int → tp_O := fun r => (some (.inl r), tp_NC, tp_st M)
theorem d_X10_quotient_0 : decode prog_1_method_50_code 0 = .ok (.iload_n 1, 1) := by decide +kernel
theorem d_X10_quotient_1 : decode prog_1_method_50_code 1 = .ok (.ifCond .ne 7, 3) := by decide +kernel
theorem d_X10_quotient_4 : decode prog_1_method_50_code 4 = .ok (.iconst 0, 1) := by decide +kernel
theorem d_X10_quotient_5 : decode prog_1_method_50_code 5 = .ok (.goto 6, 3) := by decide +kernel
theorem d_X10_quotient_8 : decode prog_1_method_50_code 8 = .ok (.iload_n 0, 1) := by decide +kernel
theorem d_X10_quotient_9 : decode prog_1_method_50_code 9 = .ok (.iload_n 1, 1) := by decide +kernel
theorem d_X10_quotient_10 : decode prog_1_method_50_code 10 = .ok (.idiv, 1) := by decide +kernel
theorem d_X10_quotient_11 : decode prog_1_method_50_code 11 = .ok (.ireturn, 1) := by decide +kernel
def f_X10_quotient (a0 : Int) (a1 : Int) (M0 : tp_M) : Option (Int) :=
  if ¬ a1 = 0 then
    if a1 = 0 then none else
      some (tp_w (Int.tdiv a0 a1))
  else
    some 0
set_option maxHeartbeats 4000000 in
set_option maxRecDepth 100000 in
theorem T_X10_quotient (G : tp_G) (a0 : Int) (a1 : Int) (M0 : tp_M) : tp_J i_X10_quotient (tp_rm 0) G 0 0 (o_X10_quotient M0) tp_NC (tp_st M0) 0 0 [some (.inl a0), some (.inl a1)] 0 [] (f_X10_quotient a0 a1 M0) := by
  unfold f_X10_quotient
  refine j_iload_n rfl d_X10_quotient_0 rfl ?_
  refine j_if_ne (tgt := 8) d_X10_quotient_1 (by decide) (fun h1 => ?_) (fun h1 => ?_)
  · refine j_iload_n rfl d_X10_quotient_8 rfl ?_
    refine j_iload_n rfl d_X10_quotient_9 rfl ?_
    refine j_idiv d_X10_quotient_10 ?_
    exact j_iret d_X10_quotient_11 rfl rfl ⟨rfl, rfl⟩
  · refine j_iconst ⟨by decide, by decide⟩ d_X10_quotient_4 ?_
    refine j_goto (tgt := 11) d_X10_quotient_5 (by decide) ?_
    exact j_iret d_X10_quotient_11 rfl rfl ⟨rfl, rfl⟩
set_option maxHeartbeats 4000000 in
set_option maxRecDepth 100000 in
theorem c_X10_quotient (G : tp_G) (a0 : Int) (a1 : Int) (M0 : tp_M) (r : Int) (h : f_X10_quotient a0 a1 M0 = some r) (l : Launch) : Met l y_X10_quotient (tp_ws y_X10_quotient i_X10_quotient) (tp_rm 0) (tp_Pc G [.inl a0, .inl a1] tp_NC (tp_st M0)) (tp_Q G ((o_X10_quotient M0) r)) 0 0 (tp_A G) :=
  tp_met (I := i_X10_quotient) (y := y_X10_quotient) (by decide +kernel) (Eq.refl "TypesAtPrime") (Eq.refl "quotient") (lv := [some (.inl a0), some (.inl a1)]) rfl (Nat.le_of_ble_eq_true rfl) (T_X10_quotient G a0 a1 M0) h l
theorem wd_118 : (.fieldLink "TypesAtPrime$Factors" 41 "TypesAtPrime$Factors" "candidate" "[I" : Cond) ∈ lw_tbl := List.mem_append_right _ (List.mem_of_getElem? (i := 118) (by decide +kernel))
theorem fl_Factors_41 : tp_F "TypesAtPrime$Factors" 41 0 11 2 := ⟨_, _, _, rfl, by decide, rfl, wd_118, rfl, by decide⟩
theorem fam_0_11 : ∀ c : Int, tp_tg c = 0 → tp_rv c 11 = c + 19 ∧ tp_tg (c + 19) = 21 ∧ tp_al (c + 19) = 9 := by
  intro c hc
  obtain ⟨h0, xs, -, h2⟩ := tp_tg_at (t := 0) hc
  have h : (List.range tp_NC).all (fun i => decide (tp_tg (i : Int) = 0 → tp_rv (i : Int) 11 = (i : Int) + 19 ∧ tp_tg ((i : Int) + 19) = 21 ∧ tp_al ((i : Int) + 19) = 9)) = true := by decide +kernel
  have h3 := List.all_eq_true.mp h c.toNat (List.mem_range.mpr h2)
  have h4 : ((c.toNat : Nat) : Int) = c := by omega
  rw [h4] at h3
  exact of_decide_eq_true h3 hc
theorem wd_623 : (.code ⟨"TypesAtPrime", "quotient", "(II)I"⟩ prog_1_method_50_code 2 (some .int) : Cond) ∈ lw_tbl := List.mem_append_right _ (List.mem_of_getElem? (i := 623) (by decide +kernel))
theorem cs_Factors_115 : tp_CS "TypesAtPrime$Factors" 115 y_X10_quotient i_X10_quotient 2 := ⟨wd_623, wd_1, by decide, by decide, by decide +kernel⟩
theorem wd_622 : (.static ⟨"TypesAtPrime", "quotient", "(II)I"⟩ : Cond) ∈ lw_tbl := List.mem_append_right _ (List.mem_of_getElem? (i := 622) (by decide +kernel))
theorem wd_620 : (.code ⟨"TypesAtPrime", "remainder", "(II)I"⟩ prog_1_method_51_code 2 (some .int) : Cond) ∈ lw_tbl := List.mem_append_right _ (List.mem_of_getElem? (i := 620) (by decide +kernel))
theorem cs_Factors_112 : tp_CS "TypesAtPrime$Factors" 112 y_X10_remainder i_X10_remainder 2 := ⟨wd_620, wd_1, by decide, by decide, by decide +kernel⟩
theorem wd_619 : (.static ⟨"TypesAtPrime", "remainder", "(II)I"⟩ : Cond) ∈ lw_tbl := List.mem_append_right _ (List.mem_of_getElem? (i := 619) (by decide +kernel))
def y_X0_writeCandidate : MethodName := ⟨"TypesAtPrime$Factors", "writeCandidate", "(II)V"⟩
abbrev i_X0_writeCandidate : tp_I := (prog_2_method_10_code, "TypesAtPrime$Factors", none, 5, "writeCandidate")
abbrev o_X0_writeCandidate : tp_M → tp_O := fun r => (none, tp_NC, tp_st r)
theorem d_X0_writeCandidate_0 : decode prog_2_method_10_code 0 = .ok (.iload_n 1, 1) := by decide +kernel
theorem d_X0_writeCandidate_1 : decode prog_2_method_10_code 1 = .ok (.istore_n 3, 1) := by decide +kernel
theorem d_X0_writeCandidate_2 : decode prog_2_method_10_code 2 = .ok (.iconst 0, 1) := by decide +kernel
theorem d_X0_writeCandidate_3 : decode prog_2_method_10_code 3 = .ok (.istore 4, 2) := by decide +kernel
theorem d_X0_writeCandidate_5 : decode prog_2_method_10_code 5 = .ok (.iload 4, 2) := by decide +kernel
theorem d_X0_writeCandidate_7 : decode prog_2_method_10_code 7 = .ok (.bipush 9, 2) := by decide +kernel
theorem d_X0_writeCandidate_9 : decode prog_2_method_10_code 9 = .ok (.if_icmp .ge 53, 3) := by decide +kernel
theorem d_X0_writeCandidate_12 : decode prog_2_method_10_code 12 = .ok (.aload_n 0, 1) := by decide +kernel
theorem d_X0_writeCandidate_13 : decode prog_2_method_10_code 13 = .ok (.getfield 41, 3) := by decide +kernel
theorem d_X0_writeCandidate_16 : decode prog_2_method_10_code 16 = .ok (.iload 4, 2) := by decide +kernel
theorem d_X0_writeCandidate_18 : decode prog_2_method_10_code 18 = .ok (.iload 4, 2) := by decide +kernel
theorem d_X0_writeCandidate_20 : decode prog_2_method_10_code 20 = .ok (.iload_n 2, 1) := by decide +kernel
theorem d_X0_writeCandidate_21 : decode prog_2_method_10_code 21 = .ok (.if_icmp .ge 14, 3) := by decide +kernel
theorem d_X0_writeCandidate_24 : decode prog_2_method_10_code 24 = .ok (.iload_n 3, 1) := by decide +kernel
theorem d_X0_writeCandidate_25 : decode prog_2_method_10_code 25 = .ok (.aload_n 0, 1) := by decide +kernel
theorem d_X0_writeCandidate_26 : decode prog_2_method_10_code 26 = .ok (.getfield 51, 3) := by decide +kernel
theorem d_X0_writeCandidate_29 : decode prog_2_method_10_code 29 = .ok (.invokestatic 112, 3) := by decide +kernel
theorem d_X0_writeCandidate_32 : decode prog_2_method_10_code 32 = .ok (.goto 14, 3) := by decide +kernel
theorem d_X0_writeCandidate_35 : decode prog_2_method_10_code 35 = .ok (.iload 4, 2) := by decide +kernel
theorem d_X0_writeCandidate_37 : decode prog_2_method_10_code 37 = .ok (.iload_n 2, 1) := by decide +kernel
theorem d_X0_writeCandidate_38 : decode prog_2_method_10_code 38 = .ok (.if_icmp .ne 7, 3) := by decide +kernel
theorem d_X0_writeCandidate_41 : decode prog_2_method_10_code 41 = .ok (.iconst 1, 1) := by decide +kernel
theorem d_X0_writeCandidate_42 : decode prog_2_method_10_code 42 = .ok (.goto 4, 3) := by decide +kernel
theorem d_X0_writeCandidate_45 : decode prog_2_method_10_code 45 = .ok (.iconst 0, 1) := by decide +kernel
theorem d_X0_writeCandidate_46 : decode prog_2_method_10_code 46 = .ok (.iastore, 1) := by decide +kernel
theorem d_X0_writeCandidate_47 : decode prog_2_method_10_code 47 = .ok (.iload_n 3, 1) := by decide +kernel
theorem d_X0_writeCandidate_48 : decode prog_2_method_10_code 48 = .ok (.aload_n 0, 1) := by decide +kernel
theorem d_X0_writeCandidate_49 : decode prog_2_method_10_code 49 = .ok (.getfield 51, 3) := by decide +kernel
theorem d_X0_writeCandidate_52 : decode prog_2_method_10_code 52 = .ok (.invokestatic 115, 3) := by decide +kernel
theorem d_X0_writeCandidate_55 : decode prog_2_method_10_code 55 = .ok (.istore_n 3, 1) := by decide +kernel
theorem d_X0_writeCandidate_56 : decode prog_2_method_10_code 56 = .ok (.iinc 4 1, 3) := by decide +kernel
theorem d_X0_writeCandidate_59 : decode prog_2_method_10_code 59 = .ok (.goto (-54), 3) := by decide +kernel
theorem d_X0_writeCandidate_62 : decode prog_2_method_10_code 62 = .ok (.return_, 1) := by decide +kernel
def f_X0_writeCandidate_46 (rec_5 : Int → Int → tp_M → Option (tp_M)) (x0 : Int) (x2 : Int) (x3 : Int) (x4 : Int) (s0 : Int) (s1 : Int) (s2 : Int) (M0 : tp_M) : Option (tp_M) :=
  if 0 ≤ s1 ∧ s1 < 9 then
    tp_mp (tp_up M0 s2 s1 s0) fun M5 =>
    (f_X10_quotient x3 (M5 x0 4) M5).bind fun r6 =>
    tp_lt (tp_w (x4 + 1)) fun y8 =>
    rec_5 r6 y8 M5 else none
set_option maxHeartbeats 4000000 in
set_option maxRecDepth 100000 in
theorem T_X0_writeCandidate_46 (G : tp_G) (rec_5 : Int → Int → tp_M → Option (tp_M)) (x0 : Int) (x2 : Int) (x3 : Int) (x4 : Int) (s0 : Int) (s1 : Int) (s2 : Int) (M0 : tp_M) (hrec_5 : ∀ (x3' x4' : Int) (M' : tp_M), tp_J i_X0_writeCandidate (tp_rm 1) G 0 0 o_X0_writeCandidate tp_NC (tp_st M') 0 0 [some (.inr (.inr x0)), none, some (.inl x2), some (.inl (x3')), some (.inl (x4'))] 5 [] (rec_5 x3' x4' M')) (hg_x0 : tp_tg x0 = 0) (hg_s2 : tp_tg s2 = 21) (hn_s2 : tp_al s2 = 9) : tp_J i_X0_writeCandidate (tp_rm 1) G 0 0 o_X0_writeCandidate tp_NC (tp_st M0) 0 0 [some (.inr (.inr x0)), none, some (.inl x2), some (.inl x3), some (.inl x4)] 46 [.inl s0, .inl s1, .inr (.inr s2)] (f_X0_writeCandidate_46 rec_5 x0 x2 x3 x4 s0 s1 s2 M0) := by
  unfold f_X0_writeCandidate_46
  refine j_iast hg_s2 hn_s2 d_X0_writeCandidate_46 (fun M5 hM5 => ?_)
  refine j_iload_n rfl d_X0_writeCandidate_47 rfl ?_
  refine j_aload_n rfl d_X0_writeCandidate_48 rfl ?_
  refine j_geti fl_Factors_51 hg_x0 d_X0_writeCandidate_49 ?_
  refine j_bind (fun r6 h7 => ?_)
  refine j_callSN (y := y_X10_quotient) (I' := i_X10_quotient) (avs := [.inl x3, .inl (M5 x0 4)]) (st := []) (c_X10_quotient G x3 (M5 x0 4) M5 r6 h7) cs_Factors_115 (by decide +kernel : (.methodLinkNest "TypesAtPrime$Factors" 115 ⟨"TypesAtPrime", "quotient", "(II)I"⟩ "TypesAtPrime" : Cond) ∈ tp_nest) wd_622 rfl rfl (Nat.le_of_ble_eq_true rfl) ⟨rfl, rfl⟩ ⟨by decide, by decide⟩ ⟨by decide, by decide⟩ d_X0_writeCandidate_52 ?_
  refine j_istore_n (lv' := [some (.inr (.inr x0)), none, some (.inl x2), some (.inl r6), some (.inl x4)]) rfl d_X0_writeCandidate_55 (Nat.le_of_ble_eq_true rfl) rfl ?_
  refine j_iincN (lv' := fun y8 => [some (.inr (.inr x0)), none, some (.inl x2), some (.inl r6), some (.inl y8)]) d_X0_writeCandidate_56 rfl (Nat.le_of_ble_eq_true rfl) (fun _ => rfl) (fun y8 hy8 => ?_)
  refine j_goto (tgt := 5) d_X0_writeCandidate_59 (by decide) ?_
  exact j_wk [true, false, true, true, true] rfl rfl (hrec_5 r6 y8 M5)
def f_X0_writeCandidate_5B (x0 : Int) (x2 : Int) (rec_5 : Int → Int → tp_M → Option (tp_M)) (x3 : Int) (x4 : Int) (M0 : tp_M) : Option (tp_M) :=
  if 9 ≤ x4 then
    some M0
  else
    if x2 ≤ x4 then
      if ¬ x4 = x2 then
        f_X0_writeCandidate_46 rec_5 x0 x2 x3 x4 0 x4 (x0 + 19) M0
      else
        f_X0_writeCandidate_46 rec_5 x0 x2 x3 x4 1 x4 (x0 + 19) M0
    else
      (f_X10_remainder x3 (M0 x0 4) M0).bind fun r9 =>
      f_X0_writeCandidate_46 rec_5 x0 x2 x3 x4 r9 x4 (x0 + 19) M0
set_option maxHeartbeats 4000000 in
set_option maxRecDepth 100000 in
theorem T_X0_writeCandidate_5B (G : tp_G) (x0 : Int) (x2 : Int) (hg_x0 : tp_tg x0 = 0) (rec_5 : Int → Int → tp_M → Option (tp_M)) (hrec_5 : ∀ (x3' x4' : Int) (M' : tp_M), tp_J i_X0_writeCandidate (tp_rm 1) G 0 0 o_X0_writeCandidate tp_NC (tp_st M') 0 0 [some (.inr (.inr x0)), none, some (.inl x2), some (.inl (x3')), some (.inl (x4'))] 5 [] (rec_5 x3' x4' M')) (x3 : Int) (x4 : Int) (M0 : tp_M) : tp_J i_X0_writeCandidate (tp_rm 1) G 0 0 o_X0_writeCandidate tp_NC (tp_st M0) 0 0 [some (.inr (.inr x0)), none, some (.inl x2), some (.inl x3), some (.inl x4)] 5 [] (f_X0_writeCandidate_5B x0 x2 rec_5 x3 x4 M0) := by
  unfold f_X0_writeCandidate_5B
  refine j_iload d_X0_writeCandidate_5 rfl ?_
  refine j_bipush ⟨by decide, by decide⟩ (by decide +kernel) d_X0_writeCandidate_7 ?_
  refine j_icmp_ge (tgt := 62) d_X0_writeCandidate_9 (by decide) (fun h2 => ?_) (fun h2 => ?_)
  · exact j_vret d_X0_writeCandidate_62 rfl rfl ⟨rfl, rfl⟩
  · refine j_aload_n rfl d_X0_writeCandidate_12 rfl ?_
    refine j_getr fl_Factors_41 hg_x0 (fam_0_11 _ hg_x0).1 d_X0_writeCandidate_13 ?_
    refine j_iload d_X0_writeCandidate_16 rfl ?_
    refine j_iload d_X0_writeCandidate_18 rfl ?_
    refine j_iload_n rfl d_X0_writeCandidate_20 rfl ?_
    refine j_icmp_ge (tgt := 35) d_X0_writeCandidate_21 (by decide) (fun h3 => ?_) (fun h3 => ?_)
    · refine j_iload d_X0_writeCandidate_35 rfl ?_
      refine j_iload_n rfl d_X0_writeCandidate_37 rfl ?_
      refine j_icmp_ne (tgt := 45) d_X0_writeCandidate_38 (by decide) (fun h4 => ?_) (fun h4 => ?_)
      · refine j_iconst ⟨by decide, by decide⟩ d_X0_writeCandidate_45 ?_
        exact j_wk [true, false, true, true, true] rfl rfl (T_X0_writeCandidate_46 G rec_5 x0 x2 x3 x4 0 x4 (x0 + 19) M0 hrec_5 hg_x0 ((fam_0_11 _ hg_x0).2.1) ((fam_0_11 _ hg_x0).2.2))
      · refine j_iconst ⟨by decide, by decide⟩ d_X0_writeCandidate_41 ?_
        refine j_goto (tgt := 46) d_X0_writeCandidate_42 (by decide) ?_
        exact j_wk [true, false, true, true, true] rfl rfl (T_X0_writeCandidate_46 G rec_5 x0 x2 x3 x4 1 x4 (x0 + 19) M0 hrec_5 hg_x0 ((fam_0_11 _ hg_x0).2.1) ((fam_0_11 _ hg_x0).2.2))
    · refine j_iload_n rfl d_X0_writeCandidate_24 rfl ?_
      refine j_aload_n rfl d_X0_writeCandidate_25 rfl ?_
      refine j_geti fl_Factors_51 hg_x0 d_X0_writeCandidate_26 ?_
      refine j_bind (fun r9 h10 => ?_)
      refine j_callSN (y := y_X10_remainder) (I' := i_X10_remainder) (avs := [.inl x3, .inl (M0 x0 4)]) (st := [.inl x4, .inr (.inr (x0 + 19))]) (c_X10_remainder G x3 (M0 x0 4) M0 r9 h10) cs_Factors_112 (by decide +kernel : (.methodLinkNest "TypesAtPrime$Factors" 112 ⟨"TypesAtPrime", "remainder", "(II)I"⟩ "TypesAtPrime" : Cond) ∈ tp_nest) wd_619 rfl rfl (Nat.le_of_ble_eq_true rfl) ⟨rfl, rfl⟩ ⟨by decide, by decide⟩ ⟨by decide, by decide⟩ d_X0_writeCandidate_29 ?_
      refine j_goto (tgt := 46) d_X0_writeCandidate_32 (by decide) ?_
      exact j_wk [true, false, true, true, true] rfl rfl (T_X0_writeCandidate_46 G rec_5 x0 x2 x3 x4 r9 x4 (x0 + 19) M0 hrec_5 hg_x0 ((fam_0_11 _ hg_x0).2.1) ((fam_0_11 _ hg_x0).2.2))
def f_X0_writeCandidate_5 (x0 : Int) (x2 : Int) (x3 : Int) (x4 : Int) (M0 : tp_M) : Option (tp_M) := tp_lp (σ := Int × Int × tp_M) (fun rec_ u => f_X0_writeCandidate_5B x0 x2 (fun x3' x4' M0' => rec_ (x3', x4', M0')) u.1 u.2.1 u.2.2) tp_N (x3, x4, M0)
set_option maxHeartbeats 4000000 in
set_option maxRecDepth 100000 in
theorem T_X0_writeCandidate_5 (G : tp_G) (x0 : Int) (x2 : Int) (x3 : Int) (x4 : Int) (M0 : tp_M) (hg_x0 : tp_tg x0 = 0) : tp_J i_X0_writeCandidate (tp_rm 1) G 0 0 o_X0_writeCandidate tp_NC (tp_st M0) 0 0 [some (.inr (.inr x0)), none, some (.inl x2), some (.inl x3), some (.inl x4)] 5 [] (f_X0_writeCandidate_5 x0 x2 x3 x4 M0) := by
  unfold f_X0_writeCandidate_5
  exact j_lp (σ := Int × Int × tp_M) (n' := fun _ => tp_NC) (g' := fun u => tp_st u.2.2) (k' := fun _ => 0) (q' := fun _ => 0) (lv' := fun u => [some (.inr (.inr x0)), none, some (.inl x2), some (.inl u.1), some (.inl u.2.1)]) (fun rec_ hrec u => T_X0_writeCandidate_5B G x0 x2 hg_x0 (fun x3' x4' M0' => rec_ (x3', x4', M0')) (fun x3' x4' M0' => hrec (x3', x4', M0')) u.1 u.2.1 u.2.2) tp_N (x3, x4, M0)
def f_X0_writeCandidate (c0 : Int) (a0 : Int) (a1 : Int) (M0 : tp_M) : Option (tp_M) :=
  if tp_tg c0 = 0 then
    f_X0_writeCandidate_5 c0 a1 a0 0 M0 else none
set_option maxHeartbeats 4000000 in
set_option maxRecDepth 100000 in
theorem T_X0_writeCandidate (G : tp_G) (c0 : Int) (a0 : Int) (a1 : Int) (M0 : tp_M) : tp_J i_X0_writeCandidate (tp_rm 1) G 0 0 o_X0_writeCandidate tp_NC (tp_st M0) 0 0 [some (.inr (.inr c0)), some (.inl a0), some (.inl a1), none, none] 0 [] (f_X0_writeCandidate c0 a0 a1 M0) := by
  unfold f_X0_writeCandidate
  refine tp_chk (fun ht1 => ?_)
  refine j_iload_n rfl d_X0_writeCandidate_0 rfl ?_
  refine j_istore_n (lv' := [some (.inr (.inr c0)), some (.inl a0), some (.inl a1), some (.inl a0), none]) rfl d_X0_writeCandidate_1 (Nat.le_of_ble_eq_true rfl) rfl ?_
  refine j_iconst ⟨by decide, by decide⟩ d_X0_writeCandidate_2 ?_
  refine j_istore (lv' := [some (.inr (.inr c0)), some (.inl a0), some (.inl a1), some (.inl a0), some (.inl 0)]) d_X0_writeCandidate_3 (Nat.le_of_ble_eq_true rfl) rfl ?_
  exact j_wk [true, false, true, true, true] rfl rfl (T_X0_writeCandidate_5 G c0 a1 a0 0 M0 ht1)
set_option maxHeartbeats 4000000 in
set_option maxRecDepth 100000 in
theorem c_X0_writeCandidate (G : tp_G) (c0 : Int) (a0 : Int) (a1 : Int) (M0 : tp_M) (r : tp_M) (h : f_X0_writeCandidate c0 a0 a1 M0 = some r) (l : Launch) : Met l y_X0_writeCandidate (tp_ws y_X0_writeCandidate i_X0_writeCandidate) (tp_rm 1) (tp_Pc G [.inr (.inr c0), .inl a0, .inl a1] tp_NC (tp_st M0)) (tp_Q G (o_X0_writeCandidate r)) 0 0 (tp_A G) :=
  tp_met (I := i_X0_writeCandidate) (y := y_X0_writeCandidate) (by decide +kernel) (Eq.refl "TypesAtPrime$Factors") (Eq.refl "writeCandidate") (lv := [some (.inr (.inr c0)), some (.inl a0), some (.inl a1), none, none]) rfl (Nat.le_of_ble_eq_true rfl) (T_X0_writeCandidate G c0 a0 a1 M0) h l
theorem wd_117 : (.fieldLink "TypesAtPrime$Factors" 38 "TypesAtPrime$Factors" "left" "[I" : Cond) ∈ lw_tbl := List.mem_append_right _ (List.mem_of_getElem? (i := 117) (by decide +kernel))
theorem fl_Factors_38 : tp_F "TypesAtPrime$Factors" 38 0 10 2 := ⟨_, _, _, rfl, by decide, rfl, wd_117, rfl, by decide⟩
theorem fam_0_10 : ∀ c : Int, tp_tg c = 0 → tp_rv c 10 = c + 18 ∧ tp_tg (c + 18) = 21 ∧ tp_al (c + 18) = 9 := by
  intro c hc
  obtain ⟨h0, xs, -, h2⟩ := tp_tg_at (t := 0) hc
  have h : (List.range tp_NC).all (fun i => decide (tp_tg (i : Int) = 0 → tp_rv (i : Int) 10 = (i : Int) + 18 ∧ tp_tg ((i : Int) + 18) = 21 ∧ tp_al ((i : Int) + 18) = 9)) = true := by decide +kernel
  have h3 := List.all_eq_true.mp h c.toNat (List.mem_range.mpr h2)
  have h4 : ((c.toNat : Nat) : Int) = c := by omega
  rw [h4] at h3
  exact of_decide_eq_true h3 hc
def y_X0_splitOff : MethodName := ⟨"TypesAtPrime$Factors", "splitOff", "([I[II)Z"⟩
abbrev i_X0_splitOff : tp_I := (prog_2_method_12_code, "TypesAtPrime$Factors", (some .boolean), 5, "splitOff")
abbrev o_X0_splitOff : Int × tp_M → tp_O := fun r => (some (.inl r.1), tp_NC, tp_st r.2)
theorem d_X0_splitOff_0 : decode prog_2_method_12_code 0 = .ok (.iload_n 3, 1) := by decide +kernel
theorem d_X0_splitOff_1 : decode prog_2_method_12_code 1 = .ok (.iconst 1, 1) := by decide +kernel
theorem d_X0_splitOff_2 : decode prog_2_method_12_code 2 = .ok (.if_icmp .lt 11, 3) := by decide +kernel
theorem d_X0_splitOff_5 : decode prog_2_method_12_code 5 = .ok (.aload_n 1, 1) := by decide +kernel
theorem d_X0_splitOff_6 : decode prog_2_method_12_code 6 = .ok (.invokestatic 58, 3) := by decide +kernel
theorem d_X0_splitOff_9 : decode prog_2_method_12_code 9 = .ok (.iload_n 3, 1) := by decide +kernel
theorem d_X0_splitOff_10 : decode prog_2_method_12_code 10 = .ok (.if_icmp .ge 5, 3) := by decide +kernel
theorem d_X0_splitOff_13 : decode prog_2_method_12_code 13 = .ok (.iconst 0, 1) := by decide +kernel
theorem d_X0_splitOff_14 : decode prog_2_method_12_code 14 = .ok (.ireturn, 1) := by decide +kernel
theorem d_X0_splitOff_15 : decode prog_2_method_12_code 15 = .ok (.aload_n 1, 1) := by decide +kernel
theorem d_X0_splitOff_16 : decode prog_2_method_12_code 16 = .ok (.iconst 0, 1) := by decide +kernel
theorem d_X0_splitOff_17 : decode prog_2_method_12_code 17 = .ok (.aload_n 0, 1) := by decide +kernel
theorem d_X0_splitOff_18 : decode prog_2_method_12_code 18 = .ok (.getfield 38, 3) := by decide +kernel
theorem d_X0_splitOff_21 : decode prog_2_method_12_code 21 = .ok (.iconst 0, 1) := by decide +kernel
theorem d_X0_splitOff_22 : decode prog_2_method_12_code 22 = .ok (.bipush 9, 2) := by decide +kernel
theorem d_X0_splitOff_24 : decode prog_2_method_12_code 24 = .ok (.invokestatic 98, 3) := by decide +kernel
theorem d_X0_splitOff_27 : decode prog_2_method_12_code 27 = .ok (.aload_n 0, 1) := by decide +kernel
theorem d_X0_splitOff_28 : decode prog_2_method_12_code 28 = .ok (.aload_n 0, 1) := by decide +kernel
theorem d_X0_splitOff_29 : decode prog_2_method_12_code 29 = .ok (.getfield 38, 3) := by decide +kernel
theorem d_X0_splitOff_32 : decode prog_2_method_12_code 32 = .ok (.aload_n 2, 1) := by decide +kernel
theorem d_X0_splitOff_33 : decode prog_2_method_12_code 33 = .ok (.iload_n 3, 1) := by decide +kernel
theorem d_X0_splitOff_34 : decode prog_2_method_12_code 34 = .ok (.invokevirtual 89, 3) := by decide +kernel
theorem d_X0_splitOff_37 : decode prog_2_method_12_code 37 = .ok (.iconst 0, 1) := by decide +kernel
theorem d_X0_splitOff_38 : decode prog_2_method_12_code 38 = .ok (.istore 4, 2) := by decide +kernel
theorem d_X0_splitOff_40 : decode prog_2_method_12_code 40 = .ok (.iload 4, 2) := by decide +kernel
theorem d_X0_splitOff_42 : decode prog_2_method_12_code 42 = .ok (.iload_n 3, 1) := by decide +kernel
theorem d_X0_splitOff_43 : decode prog_2_method_12_code 43 = .ok (.if_icmp .ge 28, 3) := by decide +kernel
theorem d_X0_splitOff_46 : decode prog_2_method_12_code 46 = .ok (.iload 4, 2) := by decide +kernel
theorem d_X0_splitOff_48 : decode prog_2_method_12_code 48 = .ok (.bipush 9, 2) := by decide +kernel
theorem d_X0_splitOff_50 : decode prog_2_method_12_code 50 = .ok (.if_icmp .ge 21, 3) := by decide +kernel
theorem d_X0_splitOff_53 : decode prog_2_method_12_code 53 = .ok (.aload_n 0, 1) := by decide +kernel
theorem d_X0_splitOff_54 : decode prog_2_method_12_code 54 = .ok (.getfield 38, 3) := by decide +kernel
theorem d_X0_splitOff_57 : decode prog_2_method_12_code 57 = .ok (.iload 4, 2) := by decide +kernel
theorem d_X0_splitOff_59 : decode prog_2_method_12_code 59 = .ok (.iaload, 1) := by decide +kernel
theorem d_X0_splitOff_60 : decode prog_2_method_12_code 60 = .ok (.ifCond .eq 5, 3) := by decide +kernel
theorem d_X0_splitOff_63 : decode prog_2_method_12_code 63 = .ok (.iconst 0, 1) := by decide +kernel
theorem d_X0_splitOff_64 : decode prog_2_method_12_code 64 = .ok (.ireturn, 1) := by decide +kernel
theorem d_X0_splitOff_65 : decode prog_2_method_12_code 65 = .ok (.iinc 4 1, 3) := by decide +kernel
theorem d_X0_splitOff_68 : decode prog_2_method_12_code 68 = .ok (.goto (-28), 3) := by decide +kernel
theorem d_X0_splitOff_71 : decode prog_2_method_12_code 71 = .ok (.iconst 0, 1) := by decide +kernel
theorem d_X0_splitOff_72 : decode prog_2_method_12_code 72 = .ok (.istore 4, 2) := by decide +kernel
theorem d_X0_splitOff_74 : decode prog_2_method_12_code 74 = .ok (.iload 4, 2) := by decide +kernel
theorem d_X0_splitOff_76 : decode prog_2_method_12_code 76 = .ok (.bipush 9, 2) := by decide +kernel
theorem d_X0_splitOff_78 : decode prog_2_method_12_code 78 = .ok (.if_icmp .ge 35, 3) := by decide +kernel
theorem d_X0_splitOff_81 : decode prog_2_method_12_code 81 = .ok (.aload_n 1, 1) := by decide +kernel
theorem d_X0_splitOff_82 : decode prog_2_method_12_code 82 = .ok (.iload 4, 2) := by decide +kernel
theorem d_X0_splitOff_84 : decode prog_2_method_12_code 84 = .ok (.iload 4, 2) := by decide +kernel
theorem d_X0_splitOff_86 : decode prog_2_method_12_code 86 = .ok (.iload_n 3, 1) := by decide +kernel
theorem d_X0_splitOff_87 : decode prog_2_method_12_code 87 = .ok (.iadd, 1) := by decide +kernel
theorem d_X0_splitOff_88 : decode prog_2_method_12_code 88 = .ok (.bipush 9, 2) := by decide +kernel
theorem d_X0_splitOff_90 : decode prog_2_method_12_code 90 = .ok (.if_icmp .ge 15, 3) := by decide +kernel
theorem d_X0_splitOff_93 : decode prog_2_method_12_code 93 = .ok (.aload_n 0, 1) := by decide +kernel
theorem d_X0_splitOff_94 : decode prog_2_method_12_code 94 = .ok (.getfield 38, 3) := by decide +kernel
theorem d_X0_splitOff_97 : decode prog_2_method_12_code 97 = .ok (.iload 4, 2) := by decide +kernel
theorem d_X0_splitOff_99 : decode prog_2_method_12_code 99 = .ok (.iload_n 3, 1) := by decide +kernel
theorem d_X0_splitOff_100 : decode prog_2_method_12_code 100 = .ok (.iadd, 1) := by decide +kernel
theorem d_X0_splitOff_101 : decode prog_2_method_12_code 101 = .ok (.iaload, 1) := by decide +kernel
theorem d_X0_splitOff_102 : decode prog_2_method_12_code 102 = .ok (.goto 4, 3) := by decide +kernel
theorem d_X0_splitOff_105 : decode prog_2_method_12_code 105 = .ok (.iconst 0, 1) := by decide +kernel
theorem d_X0_splitOff_106 : decode prog_2_method_12_code 106 = .ok (.iastore, 1) := by decide +kernel
theorem d_X0_splitOff_107 : decode prog_2_method_12_code 107 = .ok (.iinc 4 1, 3) := by decide +kernel
theorem d_X0_splitOff_110 : decode prog_2_method_12_code 110 = .ok (.goto (-36), 3) := by decide +kernel
theorem d_X0_splitOff_113 : decode prog_2_method_12_code 113 = .ok (.iconst 1, 1) := by decide +kernel
theorem d_X0_splitOff_114 : decode prog_2_method_12_code 114 = .ok (.ireturn, 1) := by decide +kernel
def f_X0_splitOff_106 (rec_74 : Int → tp_M → Option (Int × tp_M)) (x0 : Int) (x1 : Int) (x3 : Int) (x4 : Int) (s0 : Int) (s1 : Int) (s2 : Int) (M0 : tp_M) : Option (Int × tp_M) :=
  if 0 ≤ s1 ∧ s1 < tp_al s2 then
    tp_mp (tp_up M0 s2 s1 s0) fun M14 =>
    tp_lt (tp_w (x4 + 1)) fun y15 =>
    rec_74 y15 M14 else none
set_option maxHeartbeats 4000000 in
set_option maxRecDepth 100000 in
theorem T_X0_splitOff_106 (G : tp_G) (rec_74 : Int → tp_M → Option (Int × tp_M)) (x0 : Int) (x1 : Int) (x3 : Int) (x4 : Int) (s0 : Int) (s1 : Int) (s2 : Int) (M0 : tp_M) (hrec_74 : ∀ (x4' : Int) (M' : tp_M), tp_J i_X0_splitOff (tp_rm 1) G 0 0 o_X0_splitOff tp_NC (tp_st M') 0 0 [some (.inr (.inr x0)), some (.inr (.inr x1)), none, some (.inl x3), some (.inl (x4'))] 74 [] (rec_74 x4' M')) (hg_x0 : tp_tg x0 = 0) (hg_x1 : tp_tg x1 = 21) (hg_s2 : tp_tg s2 = 21) : tp_J i_X0_splitOff (tp_rm 1) G 0 0 o_X0_splitOff tp_NC (tp_st M0) 0 0 [some (.inr (.inr x0)), some (.inr (.inr x1)), none, some (.inl x3), some (.inl x4)] 106 [.inl s0, .inl s1, .inr (.inr s2)] (f_X0_splitOff_106 rec_74 x0 x1 x3 x4 s0 s1 s2 M0) := by
  unfold f_X0_splitOff_106
  refine j_iast hg_s2 rfl d_X0_splitOff_106 (fun M14 hM14 => ?_)
  refine j_iincN (lv' := fun y15 => [some (.inr (.inr x0)), some (.inr (.inr x1)), none, some (.inl x3), some (.inl y15)]) d_X0_splitOff_107 rfl (Nat.le_of_ble_eq_true rfl) (fun _ => rfl) (fun y15 hy15 => ?_)
  refine j_goto (tgt := 74) d_X0_splitOff_110 (by decide) ?_
  exact j_wk [true, true, false, true, true] rfl rfl (hrec_74 y15 M14)
def f_X0_splitOff_74B (x0 : Int) (x1 : Int) (x3 : Int) (rec_74 : Int → tp_M → Option (Int × tp_M)) (x4 : Int) (M0 : tp_M) : Option (Int × tp_M) :=
  if 9 ≤ x4 then
    some (1, M0)
  else
    if 9 ≤ (tp_w (x4 + x3)) then
      f_X0_splitOff_106 rec_74 x0 x1 x3 x4 0 x4 x1 M0
    else
      if 0 ≤ (tp_w (x4 + x3)) ∧ (tp_w (x4 + x3)) < 9 then
        f_X0_splitOff_106 rec_74 x0 x1 x3 x4 (M0 (x0 + 18) (tp_w (x4 + x3))) x4 x1 M0 else none
set_option maxHeartbeats 4000000 in
set_option maxRecDepth 100000 in
theorem T_X0_splitOff_74B (G : tp_G) (x0 : Int) (x1 : Int) (x3 : Int) (hg_x0 : tp_tg x0 = 0) (hg_x1 : tp_tg x1 = 21) (rec_74 : Int → tp_M → Option (Int × tp_M)) (hrec_74 : ∀ (x4' : Int) (M' : tp_M), tp_J i_X0_splitOff (tp_rm 1) G 0 0 o_X0_splitOff tp_NC (tp_st M') 0 0 [some (.inr (.inr x0)), some (.inr (.inr x1)), none, some (.inl x3), some (.inl (x4'))] 74 [] (rec_74 x4' M')) (x4 : Int) (M0 : tp_M) : tp_J i_X0_splitOff (tp_rm 1) G 0 0 o_X0_splitOff tp_NC (tp_st M0) 0 0 [some (.inr (.inr x0)), some (.inr (.inr x1)), none, some (.inl x3), some (.inl x4)] 74 [] (f_X0_splitOff_74B x0 x1 x3 rec_74 x4 M0) := by
  unfold f_X0_splitOff_74B
  refine j_iload d_X0_splitOff_74 rfl ?_
  refine j_bipush ⟨by decide, by decide⟩ (by decide +kernel) d_X0_splitOff_76 ?_
  refine j_icmp_ge (tgt := 113) d_X0_splitOff_78 (by decide) (fun h12 => ?_) (fun h12 => ?_)
  · refine j_iconst ⟨by decide, by decide⟩ d_X0_splitOff_113 ?_
    exact j_zret d_X0_splitOff_114 rfl (Or.inr rfl) rfl ⟨rfl, rfl⟩
  · refine j_aload_n rfl d_X0_splitOff_81 rfl ?_
    refine j_iload d_X0_splitOff_82 rfl ?_
    refine j_iload d_X0_splitOff_84 rfl ?_
    refine j_iload_n rfl d_X0_splitOff_86 rfl ?_
    refine j_iadd d_X0_splitOff_87 ?_
    refine j_bipush ⟨by decide, by decide⟩ (by decide +kernel) d_X0_splitOff_88 ?_
    refine j_icmp_ge (tgt := 105) d_X0_splitOff_90 (by decide) (fun h13 => ?_) (fun h13 => ?_)
    · refine j_iconst ⟨by decide, by decide⟩ d_X0_splitOff_105 ?_
      exact j_wk [true, true, false, true, true] rfl rfl (T_X0_splitOff_106 G rec_74 x0 x1 x3 x4 0 x4 x1 M0 hrec_74 hg_x0 hg_x1 hg_x1)
    · refine j_aload_n rfl d_X0_splitOff_93 rfl ?_
      refine j_getr fl_Factors_38 hg_x0 (fam_0_10 _ hg_x0).1 d_X0_splitOff_94 ?_
      refine j_iload d_X0_splitOff_97 rfl ?_
      refine j_iload_n rfl d_X0_splitOff_99 rfl ?_
      refine j_iadd d_X0_splitOff_100 ?_
      refine j_iald ((fam_0_10 _ hg_x0).2.1) ((fam_0_10 _ hg_x0).2.2) d_X0_splitOff_101 ?_
      refine j_goto (tgt := 106) d_X0_splitOff_102 (by decide) ?_
      exact j_wk [true, true, false, true, true] rfl rfl (T_X0_splitOff_106 G rec_74 x0 x1 x3 x4 (M0 (x0 + 18) (tp_w (x4 + x3))) x4 x1 M0 hrec_74 hg_x0 hg_x1 hg_x1)
def f_X0_splitOff_74 (x0 : Int) (x1 : Int) (x3 : Int) (x4 : Int) (M0 : tp_M) : Option (Int × tp_M) := tp_lp (σ := Int × tp_M) (fun rec_ u => f_X0_splitOff_74B x0 x1 x3 (fun x4' M0' => rec_ (x4', M0')) u.1 u.2) tp_N (x4, M0)
set_option maxHeartbeats 4000000 in
set_option maxRecDepth 100000 in
theorem T_X0_splitOff_74 (G : tp_G) (x0 : Int) (x1 : Int) (x3 : Int) (x4 : Int) (M0 : tp_M) (hg_x0 : tp_tg x0 = 0) (hg_x1 : tp_tg x1 = 21) : tp_J i_X0_splitOff (tp_rm 1) G 0 0 o_X0_splitOff tp_NC (tp_st M0) 0 0 [some (.inr (.inr x0)), some (.inr (.inr x1)), none, some (.inl x3), some (.inl x4)] 74 [] (f_X0_splitOff_74 x0 x1 x3 x4 M0) := by
  unfold f_X0_splitOff_74
  exact j_lp (σ := Int × tp_M) (n' := fun _ => tp_NC) (g' := fun u => tp_st u.2) (k' := fun _ => 0) (q' := fun _ => 0) (lv' := fun u => [some (.inr (.inr x0)), some (.inr (.inr x1)), none, some (.inl x3), some (.inl u.1)]) (fun rec_ hrec u => T_X0_splitOff_74B G x0 x1 x3 hg_x0 hg_x1 (fun x4' M0' => rec_ (x4', M0')) (fun x4' M0' => hrec (x4', M0')) u.1 u.2) tp_N (x4, M0)
def f_X0_splitOff_71 (x0 : Int) (x1 : Int) (x3 : Int) (M0 : tp_M) : Option (Int × tp_M) :=
  f_X0_splitOff_74 x0 x1 x3 0 M0
set_option maxHeartbeats 4000000 in
set_option maxRecDepth 100000 in
theorem T_X0_splitOff_71 (G : tp_G) (x0 : Int) (x1 : Int) (x3 : Int) (M0 : tp_M) (hg_x0 : tp_tg x0 = 0) (hg_x1 : tp_tg x1 = 21) : tp_J i_X0_splitOff (tp_rm 1) G 0 0 o_X0_splitOff tp_NC (tp_st M0) 0 0 [some (.inr (.inr x0)), some (.inr (.inr x1)), none, some (.inl x3), none] 71 [] (f_X0_splitOff_71 x0 x1 x3 M0) := by
  unfold f_X0_splitOff_71
  refine j_iconst ⟨by decide, by decide⟩ d_X0_splitOff_71 ?_
  refine j_istore (lv' := [some (.inr (.inr x0)), some (.inr (.inr x1)), none, some (.inl x3), some (.inl 0)]) d_X0_splitOff_72 (Nat.le_of_ble_eq_true rfl) rfl ?_
  exact j_wk [true, true, false, true, true] rfl rfl (T_X0_splitOff_74 G x0 x1 x3 0 M0 hg_x0 hg_x1)
def f_X0_splitOff_40B (x0 : Int) (x1 : Int) (x3 : Int) (M0 : tp_M) (rec_40 : Int → Option (Int × tp_M)) (x4 : Int) : Option (Int × tp_M) :=
  if x3 ≤ x4 then
    f_X0_splitOff_71 x0 x1 x3 M0
  else
    if 9 ≤ x4 then
      f_X0_splitOff_71 x0 x1 x3 M0
    else
      if 0 ≤ x4 ∧ x4 < 9 then
        if (M0 (x0 + 18) x4) = 0 then
          tp_lt (tp_w (x4 + 1)) fun y18 =>
          rec_40 y18
        else
          some (0, M0) else none
set_option maxHeartbeats 4000000 in
set_option maxRecDepth 100000 in
theorem T_X0_splitOff_40B (G : tp_G) (x0 : Int) (x1 : Int) (x3 : Int) (M0 : tp_M) (hg_x0 : tp_tg x0 = 0) (hg_x1 : tp_tg x1 = 21) (rec_40 : Int → Option (Int × tp_M)) (hrec_40 : ∀ (x4' : Int), tp_J i_X0_splitOff (tp_rm 1) G 0 0 o_X0_splitOff tp_NC (tp_st M0) 0 0 [some (.inr (.inr x0)), some (.inr (.inr x1)), none, some (.inl x3), some (.inl (x4'))] 40 [] (rec_40 x4')) (x4 : Int) : tp_J i_X0_splitOff (tp_rm 1) G 0 0 o_X0_splitOff tp_NC (tp_st M0) 0 0 [some (.inr (.inr x0)), some (.inr (.inr x1)), none, some (.inl x3), some (.inl x4)] 40 [] (f_X0_splitOff_40B x0 x1 x3 M0 rec_40 x4) := by
  unfold f_X0_splitOff_40B
  refine j_iload d_X0_splitOff_40 rfl ?_
  refine j_iload_n rfl d_X0_splitOff_42 rfl ?_
  refine j_icmp_ge (tgt := 71) d_X0_splitOff_43 (by decide) (fun h11 => ?_) (fun h11 => ?_)
  · exact j_wk [true, true, false, true, false] rfl rfl (T_X0_splitOff_71 G x0 x1 x3 M0 hg_x0 hg_x1)
  · refine j_iload d_X0_splitOff_46 rfl ?_
    refine j_bipush ⟨by decide, by decide⟩ (by decide +kernel) d_X0_splitOff_48 ?_
    refine j_icmp_ge (tgt := 71) d_X0_splitOff_50 (by decide) (fun h16 => ?_) (fun h16 => ?_)
    · exact j_wk [true, true, false, true, false] rfl rfl (T_X0_splitOff_71 G x0 x1 x3 M0 hg_x0 hg_x1)
    · refine j_aload_n rfl d_X0_splitOff_53 rfl ?_
      refine j_getr fl_Factors_38 hg_x0 (fam_0_10 _ hg_x0).1 d_X0_splitOff_54 ?_
      refine j_iload d_X0_splitOff_57 rfl ?_
      refine j_iald ((fam_0_10 _ hg_x0).2.1) ((fam_0_10 _ hg_x0).2.2) d_X0_splitOff_59 ?_
      refine j_if_eq (tgt := 65) d_X0_splitOff_60 (by decide) (fun h17 => ?_) (fun h17 => ?_)
      · refine j_iincN (lv' := fun y18 => [some (.inr (.inr x0)), some (.inr (.inr x1)), none, some (.inl x3), some (.inl y18)]) d_X0_splitOff_65 rfl (Nat.le_of_ble_eq_true rfl) (fun _ => rfl) (fun y18 hy18 => ?_)
        refine j_goto (tgt := 40) d_X0_splitOff_68 (by decide) ?_
        exact j_wk [true, true, false, true, true] rfl rfl (hrec_40 y18)
      · refine j_iconst ⟨by decide, by decide⟩ d_X0_splitOff_63 ?_
        exact j_zret d_X0_splitOff_64 rfl (Or.inl rfl) rfl ⟨rfl, rfl⟩
def f_X0_splitOff_40 (x0 : Int) (x1 : Int) (x3 : Int) (x4 : Int) (M0 : tp_M) : Option (Int × tp_M) := tp_lp (σ := Int) (fun rec_ u => f_X0_splitOff_40B x0 x1 x3 M0 (fun x4' => rec_ x4') u) tp_N x4
set_option maxHeartbeats 4000000 in
set_option maxRecDepth 100000 in
theorem T_X0_splitOff_40 (G : tp_G) (x0 : Int) (x1 : Int) (x3 : Int) (x4 : Int) (M0 : tp_M) (hg_x0 : tp_tg x0 = 0) (hg_x1 : tp_tg x1 = 21) : tp_J i_X0_splitOff (tp_rm 1) G 0 0 o_X0_splitOff tp_NC (tp_st M0) 0 0 [some (.inr (.inr x0)), some (.inr (.inr x1)), none, some (.inl x3), some (.inl x4)] 40 [] (f_X0_splitOff_40 x0 x1 x3 x4 M0) := by
  unfold f_X0_splitOff_40
  exact j_lp (σ := Int) (n' := fun _ => tp_NC) (g' := fun u => tp_st M0) (k' := fun _ => 0) (q' := fun _ => 0) (lv' := fun u => [some (.inr (.inr x0)), some (.inr (.inr x1)), none, some (.inl x3), some (.inl u)]) (fun rec_ hrec u => T_X0_splitOff_40B G x0 x1 x3 M0 hg_x0 hg_x1 (fun x4' => rec_ x4') (fun x4' => hrec x4') u) tp_N x4
def f_X0_splitOff (c0 : Int) (a0 : Int) (a1 : Int) (a2 : Int) (M0 : tp_M) : Option (Int × tp_M) :=
  if tp_tg c0 = 0 then
    if tp_tg a0 = 21 then
      if tp_tg a1 = 21 then
        if a2 < 1 then
          some (0, M0)
        else
          (f_X10_degreeOf a0 M0).bind fun r5 =>
          if a2 ≤ r5 then
            if (0 : Int) ≤ 0 ∧ (0 : Int) ≤ 0 ∧ (0 : Int) ≤ 9 ∧ 0 + 9 ≤ tp_al a0 ∧ (0 + 9 : Int) ≤ 9 then
              tp_mp (tp_cp M0 a0 0 (c0 + 18) 0 9) fun M8 =>
              (f_X0_divide c0 (c0 + 18) a1 a2 M8).bind fun r9 =>
              f_X0_splitOff_40 c0 a0 a2 0 r9 else none
          else
            some (0, M0) else none else none else none
set_option maxHeartbeats 4000000 in
set_option maxRecDepth 100000 in
theorem T_X0_splitOff (G : tp_G) (c0 : Int) (a0 : Int) (a1 : Int) (a2 : Int) (M0 : tp_M) : tp_J i_X0_splitOff (tp_rm 1) G 0 0 o_X0_splitOff tp_NC (tp_st M0) 0 0 [some (.inr (.inr c0)), some (.inr (.inr a0)), some (.inr (.inr a1)), some (.inl a2), none] 0 [] (f_X0_splitOff c0 a0 a1 a2 M0) := by
  unfold f_X0_splitOff
  refine tp_chk (fun ht1 => ?_)
  refine tp_chk (fun ht2 => ?_)
  refine tp_chk (fun ht3 => ?_)
  refine j_iload_n rfl d_X0_splitOff_0 rfl ?_
  refine j_iconst ⟨by decide, by decide⟩ d_X0_splitOff_1 ?_
  refine j_icmp_lt (tgt := 13) d_X0_splitOff_2 (by decide) (fun h4 => ?_) (fun h4 => ?_)
  · refine j_iconst ⟨by decide, by decide⟩ d_X0_splitOff_13 ?_
    exact j_zret d_X0_splitOff_14 rfl (Or.inl rfl) rfl ⟨rfl, rfl⟩
  · refine j_aload_n rfl d_X0_splitOff_5 rfl ?_
    refine j_bind (fun r5 h6 => ?_)
    refine j_callSN (y := y_X10_degreeOf) (I' := i_X10_degreeOf) (avs := [.inr (.inr a0)]) (st := []) (c_X10_degreeOf G a0 M0 r5 h6) cs_Factors_58 (by decide +kernel : (.methodLinkNest "TypesAtPrime$Factors" 58 ⟨"TypesAtPrime", "degreeOf", "([I)I"⟩ "TypesAtPrime" : Cond) ∈ tp_nest) wd_517 rfl rfl (Nat.le_of_ble_eq_true rfl) ⟨rfl, rfl⟩ ⟨by decide, by decide⟩ ⟨by decide, by decide⟩ d_X0_splitOff_6 ?_
    refine j_iload_n rfl d_X0_splitOff_9 rfl ?_
    refine j_icmp_ge (tgt := 15) d_X0_splitOff_10 (by decide) (fun h7 => ?_) (fun h7 => ?_)
    · refine j_aload_n rfl d_X0_splitOff_15 rfl ?_
      refine j_iconst ⟨by decide, by decide⟩ d_X0_splitOff_16 ?_
      refine j_aload_n rfl d_X0_splitOff_17 rfl ?_
      refine j_getr fl_Factors_38 ht1 (fam_0_10 _ ht1).1 d_X0_splitOff_18 ?_
      refine j_iconst ⟨by decide, by decide⟩ d_X0_splitOff_21 ?_
      refine j_bipush ⟨by decide, by decide⟩ (by decide +kernel) d_X0_splitOff_22 ?_
      refine j_acpi ht2 rfl ((fam_0_10 _ ht1).2.1) ((fam_0_10 _ ht1).2.2) wd_592 wd_594 wd_593 wd_15 ⟨(by decide : 1 ≤ ((tp_rm 1) : Room).frames), (by decide : 60 ≤ ((tp_rm 1) : Room).locals)⟩ (Nat.le_of_ble_eq_true rfl) d_X0_splitOff_24 (fun M8 hM8 => ?_)
      refine j_aload_n rfl d_X0_splitOff_27 rfl ?_
      refine j_aload_n rfl d_X0_splitOff_28 rfl ?_
      refine j_getr fl_Factors_38 ht1 (fam_0_10 _ ht1).1 d_X0_splitOff_29 ?_
      refine j_aload_n rfl d_X0_splitOff_32 rfl ?_
      refine j_iload_n rfl d_X0_splitOff_33 rfl ?_
      refine j_bind (fun r9 h10 => ?_)
      refine j_callV (y := y_X0_divide) (I' := i_X0_divide) (avs := [.inr (.inr (c0 + 18)), .inr (.inr a1), .inl a2]) (c := c0) (st := []) (c_X0_divide G c0 (c0 + 18) a1 a2 M8 r9 h10) cs_Factors_89 wd_599 wd_601 ws_11 ht1 rfl rfl rfl (Nat.le_of_ble_eq_true rfl) ⟨rfl, rfl⟩ ⟨by decide, by decide⟩ ⟨by decide, by decide⟩ d_X0_splitOff_34 ?_
      refine j_iconst ⟨by decide, by decide⟩ d_X0_splitOff_37 ?_
      refine j_istore (lv' := [some (.inr (.inr c0)), some (.inr (.inr a0)), some (.inr (.inr a1)), some (.inl a2), some (.inl 0)]) d_X0_splitOff_38 (Nat.le_of_ble_eq_true rfl) rfl ?_
      exact j_wk [true, true, false, true, true] rfl rfl (T_X0_splitOff_40 G c0 a0 a2 0 r9 ht1 ht2)
    · refine j_iconst ⟨by decide, by decide⟩ d_X0_splitOff_13 ?_
      exact j_zret d_X0_splitOff_14 rfl (Or.inl rfl) rfl ⟨rfl, rfl⟩
set_option maxHeartbeats 4000000 in
set_option maxRecDepth 100000 in
theorem c_X0_splitOff (G : tp_G) (c0 : Int) (a0 : Int) (a1 : Int) (a2 : Int) (M0 : tp_M) (r : Int × tp_M) (h : f_X0_splitOff c0 a0 a1 a2 M0 = some r) (l : Launch) : Met l y_X0_splitOff (tp_ws y_X0_splitOff i_X0_splitOff) (tp_rm 1) (tp_Pc G [.inr (.inr c0), .inr (.inr a0), .inr (.inr a1), .inl a2] tp_NC (tp_st M0)) (tp_Q G (o_X0_splitOff r)) 0 0 (tp_A G) :=
  tp_met (I := i_X0_splitOff) (y := y_X0_splitOff) (by decide +kernel) (Eq.refl "TypesAtPrime$Factors") (Eq.refl "splitOff") (lv := [some (.inr (.inr c0)), some (.inr (.inr a0)), some (.inr (.inr a1)), some (.inl a2), none]) rfl (Nat.le_of_ble_eq_true rfl) (T_X0_splitOff G c0 a0 a1 a2 M0) h l
theorem wd_99 : (.fieldLink "TypesAtPrime$Factors" 47 "TypesAtPrime$Factors" "count" "I" : Cond) ∈ lw_tbl := List.mem_append_right _ (List.mem_of_getElem? (i := 99) (by decide +kernel))
theorem fl_Factors_47 : tp_F "TypesAtPrime$Factors" 47 0 0 0 := ⟨_, _, _, rfl, by decide, rfl, wd_99, rfl, by decide⟩
theorem pf_0_0 (v : Int) : ∀ (C : String) (T : u_T) (N : Nat), vwCl[0]? = some (C, T, N) → (T 0).2.2.2 = false ∧ ∀ G : tp_G, ∃ ty, parseFieldDescriptor (T 0).2.2.1 = some ty ∧ narrow ty (tp_enc G (tp_zv 0 v)) = tp_enc G (tp_zv 0 v) ∧ fits ty (tp_enc G (tp_zv 0 v)) = true := by
  intro C T N h
  cases h
  exact ⟨rfl, fun G => ⟨_, tyX0_ok 0 (by decide), rfl, rfl⟩⟩
theorem pt_0 : ∃ ty0 : Nat → FieldType, ∀ (C : String) (T : u_T) (N : Nat), vwCl[0]? = some (C, T, N) → (∀ k, k < N → parseFieldDescriptor (T k).2.2.1 = some (ty0 k)) ∧ ∀ a, a < N → ∀ b, b < N → a ≠ b → (T a).2.1 ≠ (T b).2.1 := ⟨tyX0, fun C T N h => by cases h; exact ⟨tyX0_ok, nmX0⟩⟩
theorem wd_108 : (.fieldLink "TypesAtPrime$Factors" 20 "TypesAtPrime$Factors" "rows" "[[I" : Cond) ∈ lw_tbl := List.mem_append_right _ (List.mem_of_getElem? (i := 108) (by decide +kernel))
theorem fl_Factors_20 : tp_F "TypesAtPrime$Factors" 20 0 3 2 := ⟨_, _, _, rfl, by decide, rfl, wd_108, rfl, by decide⟩
theorem fam_0_3 : ∀ c : Int, tp_tg c = 0 → tp_rv c 3 = c + 3 ∧ tp_tg (c + 3) = 23 ∧ tp_al (c + 3) = 9 := by
  intro c hc
  obtain ⟨h0, xs, -, h2⟩ := tp_tg_at (t := 0) hc
  have h : (List.range tp_NC).all (fun i => decide (tp_tg (i : Int) = 0 → tp_rv (i : Int) 3 = (i : Int) + 3 ∧ tp_tg ((i : Int) + 3) = 23 ∧ tp_al ((i : Int) + 3) = 9)) = true := by decide +kernel
  have h3 := List.all_eq_true.mp h c.toNat (List.mem_range.mpr h2)
  have h4 : ((c.toNat : Nat) : Int) = c := by omega
  rw [h4] at h3
  exact of_decide_eq_true h3 hc
theorem faa_0_3 : ∀ c : Int, tp_tg c = 0 → ∀ i : Int, 0 ≤ i → i < 9 → tp_rv (c + 3) i.toNat = c + 4 + i ∧ tp_tg (c + 4 + i) = 21 ∧ tp_al (c + 4 + i) = 9 := by
  intro c hc i h0 h1
  obtain ⟨h5, xs, -, h2⟩ := tp_tg_at (t := 0) hc
  have h : (List.range tp_NC).all (fun a => (List.range 9).all (fun j => decide (tp_tg (a : Int) = 0 → tp_rv ((a : Int) + 3) j = (a : Int) + 4 + (j : Int) ∧ tp_tg ((a : Int) + 4 + (j : Int)) = 21 ∧ tp_al ((a : Int) + 4 + (j : Int)) = 9))) = true := by decide +kernel
  have h3 := of_decide_eq_true (List.all_eq_true.mp (List.all_eq_true.mp h c.toNat (List.mem_range.mpr h2)) i.toNat (List.mem_range.mpr (by omega)))
  have h4 : ((i.toNat : Nat) : Int) = i := by omega
  have h6 : ((c.toNat : Nat) : Int) = c := by omega
  rw [h4, h6] at h3
  exact h3 hc
theorem wd_102 : (.fieldLink "TypesAtPrime$Factors" 9 "TypesAtPrime$Factors" "degrees" "[I" : Cond) ∈ lw_tbl := List.mem_append_right _ (List.mem_of_getElem? (i := 102) (by decide +kernel))
theorem fl_Factors_9 : tp_F "TypesAtPrime$Factors" 9 0 1 2 := ⟨_, _, _, rfl, by decide, rfl, wd_102, rfl, by decide⟩
theorem fam_0_1 : ∀ c : Int, tp_tg c = 0 → tp_rv c 1 = c + 1 ∧ tp_tg (c + 1) = 21 ∧ tp_al (c + 1) = 9 := by
  intro c hc
  obtain ⟨h0, xs, -, h2⟩ := tp_tg_at (t := 0) hc
  have h : (List.range tp_NC).all (fun i => decide (tp_tg (i : Int) = 0 → tp_rv (i : Int) 1 = (i : Int) + 1 ∧ tp_tg ((i : Int) + 1) = 21 ∧ tp_al ((i : Int) + 1) = 9)) = true := by decide +kernel
  have h3 := List.all_eq_true.mp h c.toNat (List.mem_range.mpr h2)
  have h4 : ((c.toNat : Nat) : Int) = c := by omega
  rw [h4] at h3
  exact of_decide_eq_true h3 hc
theorem wd_105 : (.fieldLink "TypesAtPrime$Factors" 15 "TypesAtPrime$Factors" "times" "[I" : Cond) ∈ lw_tbl := List.mem_append_right _ (List.mem_of_getElem? (i := 105) (by decide +kernel))
theorem fl_Factors_15 : tp_F "TypesAtPrime$Factors" 15 0 2 2 := ⟨_, _, _, rfl, by decide, rfl, wd_105, rfl, by decide⟩
theorem fam_0_2 : ∀ c : Int, tp_tg c = 0 → tp_rv c 2 = c + 2 ∧ tp_tg (c + 2) = 21 ∧ tp_al (c + 2) = 9 := by
  intro c hc
  obtain ⟨h0, xs, -, h2⟩ := tp_tg_at (t := 0) hc
  have h : (List.range tp_NC).all (fun i => decide (tp_tg (i : Int) = 0 → tp_rv (i : Int) 2 = (i : Int) + 2 ∧ tp_tg ((i : Int) + 2) = 21 ∧ tp_al ((i : Int) + 2) = 9)) = true := by decide +kernel
  have h3 := List.all_eq_true.mp h c.toNat (List.mem_range.mpr h2)
  have h4 : ((c.toNat : Nat) : Int) = c := by omega
  rw [h4] at h3
  exact of_decide_eq_true h3 hc
theorem wd_627 : (.code ⟨"TypesAtPrime$Factors", "splitOff", "([I[II)Z"⟩ prog_2_method_12_code 5 (some .boolean) : Cond) ∈ lw_tbl := List.mem_append_right _ (List.mem_of_getElem? (i := 627) (by decide +kernel))
theorem cs_Factors_108 : tp_CS "TypesAtPrime$Factors" 108 y_X0_splitOff i_X0_splitOff 3 := ⟨wd_627, wd_5, by decide, by decide, by decide +kernel⟩
theorem wd_624 : (.methodLink "TypesAtPrime$Factors" 108 ⟨"TypesAtPrime$Factors", "splitOff", "([I[II)Z"⟩ : Cond) ∈ lw_tbl := List.mem_append_right _ (List.mem_of_getElem? (i := 624) (by decide +kernel))
theorem wd_626 : (.instanceMethod ⟨"TypesAtPrime$Factors", "splitOff", "([I[II)Z"⟩ : Cond) ∈ lw_tbl := List.mem_append_right _ (List.mem_of_getElem? (i := 626) (by decide +kernel))
theorem ws_15 : (.selects "TypesAtPrime$Factors" ⟨"TypesAtPrime$Factors", "splitOff", "([I[II)Z"⟩ ⟨"TypesAtPrime$Factors", "splitOff", "([I[II)Z"⟩ : Cond) ∈ lw_tbl := List.mem_append_left _ (List.mem_of_getElem? (i := 15) (by decide +kernel))
def y_X0_keep : MethodName := ⟨"TypesAtPrime$Factors", "keep", "([II)V"⟩
abbrev i_X0_keep : tp_I := (prog_2_method_11_code, "TypesAtPrime$Factors", none, 4, "keep")
abbrev o_X0_keep : tp_M → tp_O := fun r => (none, tp_NC, tp_st r)
theorem d_X0_keep_0 : decode prog_2_method_11_code 0 = .ok (.aload_n 0, 1) := by decide +kernel
theorem d_X0_keep_1 : decode prog_2_method_11_code 1 = .ok (.getfield 47, 3) := by decide +kernel
theorem d_X0_keep_4 : decode prog_2_method_11_code 4 = .ok (.ifCond .lt 12, 3) := by decide +kernel
theorem d_X0_keep_7 : decode prog_2_method_11_code 7 = .ok (.aload_n 0, 1) := by decide +kernel
theorem d_X0_keep_8 : decode prog_2_method_11_code 8 = .ok (.getfield 47, 3) := by decide +kernel
theorem d_X0_keep_11 : decode prog_2_method_11_code 11 = .ok (.bipush 9, 2) := by decide +kernel
theorem d_X0_keep_13 : decode prog_2_method_11_code 13 = .ok (.if_icmp .lt 4, 3) := by decide +kernel
theorem d_X0_keep_16 : decode prog_2_method_11_code 16 = .ok (.return_, 1) := by decide +kernel
theorem d_X0_keep_17 : decode prog_2_method_11_code 17 = .ok (.aload_n 0, 1) := by decide +kernel
theorem d_X0_keep_18 : decode prog_2_method_11_code 18 = .ok (.getfield 47, 3) := by decide +kernel
theorem d_X0_keep_21 : decode prog_2_method_11_code 21 = .ok (.istore_n 3, 1) := by decide +kernel
theorem d_X0_keep_22 : decode prog_2_method_11_code 22 = .ok (.aload_n 0, 1) := by decide +kernel
theorem d_X0_keep_23 : decode prog_2_method_11_code 23 = .ok (.dup, 1) := by decide +kernel
theorem d_X0_keep_24 : decode prog_2_method_11_code 24 = .ok (.getfield 47, 3) := by decide +kernel
theorem d_X0_keep_27 : decode prog_2_method_11_code 27 = .ok (.iconst 1, 1) := by decide +kernel
theorem d_X0_keep_28 : decode prog_2_method_11_code 28 = .ok (.iadd, 1) := by decide +kernel
theorem d_X0_keep_29 : decode prog_2_method_11_code 29 = .ok (.putfield 47, 3) := by decide +kernel
theorem d_X0_keep_32 : decode prog_2_method_11_code 32 = .ok (.aload_n 1, 1) := by decide +kernel
theorem d_X0_keep_33 : decode prog_2_method_11_code 33 = .ok (.iconst 0, 1) := by decide +kernel
theorem d_X0_keep_34 : decode prog_2_method_11_code 34 = .ok (.aload_n 0, 1) := by decide +kernel
theorem d_X0_keep_35 : decode prog_2_method_11_code 35 = .ok (.getfield 20, 3) := by decide +kernel
theorem d_X0_keep_38 : decode prog_2_method_11_code 38 = .ok (.iload_n 3, 1) := by decide +kernel
theorem d_X0_keep_39 : decode prog_2_method_11_code 39 = .ok (.aaload, 1) := by decide +kernel
theorem d_X0_keep_40 : decode prog_2_method_11_code 40 = .ok (.iconst 0, 1) := by decide +kernel
theorem d_X0_keep_41 : decode prog_2_method_11_code 41 = .ok (.bipush 9, 2) := by decide +kernel
theorem d_X0_keep_43 : decode prog_2_method_11_code 43 = .ok (.invokestatic 98, 3) := by decide +kernel
theorem d_X0_keep_46 : decode prog_2_method_11_code 46 = .ok (.aload_n 0, 1) := by decide +kernel
theorem d_X0_keep_47 : decode prog_2_method_11_code 47 = .ok (.getfield 9, 3) := by decide +kernel
theorem d_X0_keep_50 : decode prog_2_method_11_code 50 = .ok (.iload_n 3, 1) := by decide +kernel
theorem d_X0_keep_51 : decode prog_2_method_11_code 51 = .ok (.iload_n 2, 1) := by decide +kernel
theorem d_X0_keep_52 : decode prog_2_method_11_code 52 = .ok (.iastore, 1) := by decide +kernel
theorem d_X0_keep_53 : decode prog_2_method_11_code 53 = .ok (.aload_n 0, 1) := by decide +kernel
theorem d_X0_keep_54 : decode prog_2_method_11_code 54 = .ok (.getfield 15, 3) := by decide +kernel
theorem d_X0_keep_57 : decode prog_2_method_11_code 57 = .ok (.iload_n 3, 1) := by decide +kernel
theorem d_X0_keep_58 : decode prog_2_method_11_code 58 = .ok (.iconst 0, 1) := by decide +kernel
theorem d_X0_keep_59 : decode prog_2_method_11_code 59 = .ok (.iastore, 1) := by decide +kernel
theorem d_X0_keep_60 : decode prog_2_method_11_code 60 = .ok (.aload_n 0, 1) := by decide +kernel
theorem d_X0_keep_61 : decode prog_2_method_11_code 61 = .ok (.getfield 15, 3) := by decide +kernel
theorem d_X0_keep_64 : decode prog_2_method_11_code 64 = .ok (.iload_n 3, 1) := by decide +kernel
theorem d_X0_keep_65 : decode prog_2_method_11_code 65 = .ok (.iaload, 1) := by decide +kernel
theorem d_X0_keep_66 : decode prog_2_method_11_code 66 = .ok (.bipush 9, 2) := by decide +kernel
theorem d_X0_keep_68 : decode prog_2_method_11_code 68 = .ok (.if_icmp .ge 34, 3) := by decide +kernel
theorem d_X0_keep_71 : decode prog_2_method_11_code 71 = .ok (.aload_n 0, 1) := by decide +kernel
theorem d_X0_keep_72 : decode prog_2_method_11_code 72 = .ok (.aload_n 0, 1) := by decide +kernel
theorem d_X0_keep_73 : decode prog_2_method_11_code 73 = .ok (.getfield 23, 3) := by decide +kernel
theorem d_X0_keep_76 : decode prog_2_method_11_code 76 = .ok (.aload_n 0, 1) := by decide +kernel
theorem d_X0_keep_77 : decode prog_2_method_11_code 77 = .ok (.getfield 20, 3) := by decide +kernel
theorem d_X0_keep_80 : decode prog_2_method_11_code 80 = .ok (.iload_n 3, 1) := by decide +kernel
theorem d_X0_keep_81 : decode prog_2_method_11_code 81 = .ok (.aaload, 1) := by decide +kernel
theorem d_X0_keep_82 : decode prog_2_method_11_code 82 = .ok (.iload_n 2, 1) := by decide +kernel
theorem d_X0_keep_83 : decode prog_2_method_11_code 83 = .ok (.invokevirtual 108, 3) := by decide +kernel
theorem d_X0_keep_86 : decode prog_2_method_11_code 86 = .ok (.ifCond .eq 16, 3) := by decide +kernel
theorem d_X0_keep_89 : decode prog_2_method_11_code 89 = .ok (.aload_n 0, 1) := by decide +kernel
theorem d_X0_keep_90 : decode prog_2_method_11_code 90 = .ok (.getfield 15, 3) := by decide +kernel
theorem d_X0_keep_93 : decode prog_2_method_11_code 93 = .ok (.iload_n 3, 1) := by decide +kernel
theorem d_X0_keep_94 : decode prog_2_method_11_code 94 = .ok (.dup2, 1) := by decide +kernel
theorem d_X0_keep_95 : decode prog_2_method_11_code 95 = .ok (.iaload, 1) := by decide +kernel
theorem d_X0_keep_96 : decode prog_2_method_11_code 96 = .ok (.iconst 1, 1) := by decide +kernel
theorem d_X0_keep_97 : decode prog_2_method_11_code 97 = .ok (.iadd, 1) := by decide +kernel
theorem d_X0_keep_98 : decode prog_2_method_11_code 98 = .ok (.iastore, 1) := by decide +kernel
theorem d_X0_keep_99 : decode prog_2_method_11_code 99 = .ok (.goto (-39), 3) := by decide +kernel
theorem d_X0_keep_102 : decode prog_2_method_11_code 102 = .ok (.return_, 1) := by decide +kernel
def f_X0_keep_60B (x0 : Int) (x2 : Int) (x3 : Int) (rec_60 : tp_M → Option (tp_M)) (M0 : tp_M) : Option (tp_M) :=
  if 0 ≤ x3 ∧ x3 < 9 then
    if 9 ≤ (M0 (x0 + 2) x3) then
      some M0
    else
      if 0 ≤ x3 ∧ x3 < 9 then
        (f_X0_splitOff x0 (x0 + 13) (x0 + 4 + x3) x2 M0).bind fun r13 =>
        if r13.1 = 0 then
          some r13.2
        else
          if 0 ≤ x3 ∧ x3 < 9 then
            if 0 ≤ x3 ∧ x3 < 9 then
              tp_mp (tp_up r13.2 (x0 + 2) x3 (tp_w ((r13.2 (x0 + 2) x3) + 1))) fun M16 =>
              rec_60 M16 else none else none else none else none
set_option maxHeartbeats 4000000 in
set_option maxRecDepth 100000 in
theorem T_X0_keep_60B (G : tp_G) (x0 : Int) (x2 : Int) (x3 : Int) (hg_x0 : tp_tg x0 = 0) (rec_60 : tp_M → Option (tp_M)) (hrec_60 : ∀ (M' : tp_M), tp_J i_X0_keep (tp_rm 2) G 0 0 o_X0_keep tp_NC (tp_st M') 0 0 [some (.inr (.inr x0)), none, some (.inl x2), some (.inl x3)] 60 [] (rec_60 M')) (M0 : tp_M) : tp_J i_X0_keep (tp_rm 2) G 0 0 o_X0_keep tp_NC (tp_st M0) 0 0 [some (.inr (.inr x0)), none, some (.inl x2), some (.inl x3)] 60 [] (f_X0_keep_60B x0 x2 x3 rec_60 M0) := by
  unfold f_X0_keep_60B
  refine j_aload_n rfl d_X0_keep_60 rfl ?_
  refine j_getr fl_Factors_15 hg_x0 (fam_0_2 _ hg_x0).1 d_X0_keep_61 ?_
  refine j_iload_n rfl d_X0_keep_64 rfl ?_
  refine j_iald ((fam_0_2 _ hg_x0).2.1) ((fam_0_2 _ hg_x0).2.2) d_X0_keep_65 ?_
  refine j_bipush ⟨by decide, by decide⟩ (by decide +kernel) d_X0_keep_66 ?_
  refine j_icmp_ge (tgt := 102) d_X0_keep_68 (by decide) (fun h11 => ?_) (fun h11 => ?_)
  · exact j_vret d_X0_keep_102 rfl rfl ⟨rfl, rfl⟩
  · refine j_aload_n rfl d_X0_keep_71 rfl ?_
    refine j_aload_n rfl d_X0_keep_72 rfl ?_
    refine j_getr fl_Factors_23 hg_x0 (fam_0_5 _ hg_x0).1 d_X0_keep_73 ?_
    refine j_aload_n rfl d_X0_keep_76 rfl ?_
    refine j_getr fl_Factors_20 hg_x0 (fam_0_3 _ hg_x0).1 d_X0_keep_77 ?_
    refine j_iload_n rfl d_X0_keep_80 rfl ?_
    refine j_aald (v := (x0 + 4 + x3)) (ty := (.array .int)) ((fam_0_3 _ hg_x0).2.1) (by decide) ((fam_0_3 _ hg_x0).2.2) (by decide) rfl d_X0_keep_81 (fun h1 h2 => (faa_0_3 _ hg_x0 _ h1 h2).1) (fun hi12 => ?_)
    refine j_iload_n rfl d_X0_keep_82 rfl ?_
    refine j_bind (fun r13 h14 => ?_)
    refine j_callV (y := y_X0_splitOff) (I' := i_X0_splitOff) (avs := [.inr (.inr (x0 + 13)), .inr (.inr (x0 + 4 + x3)), .inl x2]) (c := x0) (st := []) (c_X0_splitOff G x0 (x0 + 13) (x0 + 4 + x3) x2 M0 r13 h14) cs_Factors_108 wd_624 wd_626 ws_15 hg_x0 rfl rfl rfl (Nat.le_of_ble_eq_true rfl) ⟨rfl, rfl⟩ ⟨by decide, by decide⟩ ⟨by decide, by decide⟩ d_X0_keep_83 ?_
    refine j_if_eq (tgt := 102) d_X0_keep_86 (by decide) (fun h15 => ?_) (fun h15 => ?_)
    · exact j_vret d_X0_keep_102 rfl rfl ⟨rfl, rfl⟩
    · refine j_aload_n rfl d_X0_keep_89 rfl ?_
      refine j_getr fl_Factors_15 hg_x0 (fam_0_2 _ hg_x0).1 d_X0_keep_90 ?_
      refine j_iload_n rfl d_X0_keep_93 rfl ?_
      refine j_dup2 d_X0_keep_94 (fun G => tp_cat G _) (fun G => tp_cat G _) ?_
      refine j_iald ((fam_0_2 _ hg_x0).2.1) ((fam_0_2 _ hg_x0).2.2) d_X0_keep_95 ?_
      refine j_iconst ⟨by decide, by decide⟩ d_X0_keep_96 ?_
      refine j_iadd d_X0_keep_97 ?_
      refine j_iast ((fam_0_2 _ hg_x0).2.1) ((fam_0_2 _ hg_x0).2.2) d_X0_keep_98 (fun M16 hM16 => ?_)
      refine j_goto (tgt := 60) d_X0_keep_99 (by decide) ?_
      exact j_wk [true, false, true, true] rfl rfl (hrec_60 M16)
def f_X0_keep_60 (x0 : Int) (x2 : Int) (x3 : Int) (M0 : tp_M) : Option (tp_M) := tp_lp (σ := tp_M) (fun rec_ u => f_X0_keep_60B x0 x2 x3 (fun M0' => rec_ M0') u) tp_N M0
set_option maxHeartbeats 4000000 in
set_option maxRecDepth 100000 in
theorem T_X0_keep_60 (G : tp_G) (x0 : Int) (x2 : Int) (x3 : Int) (M0 : tp_M) (hg_x0 : tp_tg x0 = 0) : tp_J i_X0_keep (tp_rm 2) G 0 0 o_X0_keep tp_NC (tp_st M0) 0 0 [some (.inr (.inr x0)), none, some (.inl x2), some (.inl x3)] 60 [] (f_X0_keep_60 x0 x2 x3 M0) := by
  unfold f_X0_keep_60
  exact j_lp (σ := tp_M) (n' := fun _ => tp_NC) (g' := fun u => tp_st u) (k' := fun _ => 0) (q' := fun _ => 0) (lv' := fun u => [some (.inr (.inr x0)), none, some (.inl x2), some (.inl x3)]) (fun rec_ hrec u => T_X0_keep_60B G x0 x2 x3 hg_x0 (fun M0' => rec_ M0') (fun M0' => hrec M0') u) tp_N M0
def f_X0_keep (c0 : Int) (a0 : Int) (a1 : Int) (M0 : tp_M) : Option (tp_M) :=
  if tp_tg c0 = 0 then
    if tp_tg a0 = 21 then
      if (M0 c0 0) < 0 then
        some M0
      else
        if (M0 c0 0) < 9 then
          tp_lt ((M0 c0 0)) fun y5 =>
          tp_mp (tp_up M0 c0 0 (tp_w ((M0 c0 0) + 1))) fun M6 =>
          if 0 ≤ y5 ∧ y5 < 9 then
            if (0 : Int) ≤ 0 ∧ (0 : Int) ≤ 0 ∧ (0 : Int) ≤ 9 ∧ 0 + 9 ≤ tp_al a0 ∧ (0 + 9 : Int) ≤ 9 then
              tp_mp (tp_cp M6 a0 0 (c0 + 4 + y5) 0 9) fun M8 =>
              if 0 ≤ y5 ∧ y5 < 9 then
                tp_mp (tp_up M8 (c0 + 1) y5 a1) fun M9 =>
                if 0 ≤ y5 ∧ y5 < 9 then
                  tp_mp (tp_up M9 (c0 + 2) y5 0) fun M10 =>
                  f_X0_keep_60 c0 a1 y5 M10 else none else none else none else none
        else
          some M0 else none else none
set_option maxHeartbeats 4000000 in
set_option maxRecDepth 100000 in
theorem T_X0_keep (G : tp_G) (c0 : Int) (a0 : Int) (a1 : Int) (M0 : tp_M) : tp_J i_X0_keep (tp_rm 2) G 0 0 o_X0_keep tp_NC (tp_st M0) 0 0 [some (.inr (.inr c0)), some (.inr (.inr a0)), some (.inl a1), none] 0 [] (f_X0_keep c0 a0 a1 M0) := by
  unfold f_X0_keep
  refine tp_chk (fun ht1 => ?_)
  refine tp_chk (fun ht2 => ?_)
  refine j_aload_n rfl d_X0_keep_0 rfl ?_
  refine j_geti fl_Factors_47 ht1 d_X0_keep_1 ?_
  refine j_if_lt (tgt := 16) d_X0_keep_4 (by decide) (fun h3 => ?_) (fun h3 => ?_)
  · exact j_vret d_X0_keep_16 rfl rfl ⟨rfl, rfl⟩
  · refine j_aload_n rfl d_X0_keep_7 rfl ?_
    refine j_geti fl_Factors_47 ht1 d_X0_keep_8 ?_
    refine j_bipush ⟨by decide, by decide⟩ (by decide +kernel) d_X0_keep_11 ?_
    refine j_icmp_lt (tgt := 17) d_X0_keep_13 (by decide) (fun h4 => ?_) (fun h4 => ?_)
    · refine j_aload_n rfl d_X0_keep_17 rfl ?_
      refine j_geti fl_Factors_47 ht1 d_X0_keep_18 ?_
      refine j_nmI (fun y5 hy5 => ?_)
      refine j_istore_n (lv' := [some (.inr (.inr c0)), some (.inr (.inr a0)), some (.inl a1), some (.inl y5)]) rfl d_X0_keep_21 (Nat.le_of_ble_eq_true rfl) rfl ?_
      refine j_aload_n rfl d_X0_keep_22 rfl ?_
      refine j_dup d_X0_keep_23 (fun G => tp_cat G _) ?_
      refine j_geti fl_Factors_47 ht1 d_X0_keep_24 ?_
      refine j_iconst ⟨by decide, by decide⟩ d_X0_keep_27 ?_
      refine j_iadd d_X0_keep_28 ?_
      refine j_put (z := 0) (v := (tp_w ((M0 c0 0) + 1))) fl_Factors_47 (by decide) ht1 (pf_0_0 _) pt_0 d_X0_keep_29 (fun M6 hM6 => ?_)
      refine j_aload_n rfl d_X0_keep_32 rfl ?_
      refine j_iconst ⟨by decide, by decide⟩ d_X0_keep_33 ?_
      refine j_aload_n rfl d_X0_keep_34 rfl ?_
      refine j_getr fl_Factors_20 ht1 (fam_0_3 _ ht1).1 d_X0_keep_35 ?_
      refine j_iload_n rfl d_X0_keep_38 rfl ?_
      refine j_aald (v := (c0 + 4 + y5)) (ty := (.array .int)) ((fam_0_3 _ ht1).2.1) (by decide) ((fam_0_3 _ ht1).2.2) (by decide) rfl d_X0_keep_39 (fun h1 h2 => (faa_0_3 _ ht1 _ h1 h2).1) (fun hi7 => ?_)
      refine j_iconst ⟨by decide, by decide⟩ d_X0_keep_40 ?_
      refine j_bipush ⟨by decide, by decide⟩ (by decide +kernel) d_X0_keep_41 ?_
      refine j_acpi ht2 rfl ((faa_0_3 _ ht1 _ hi7.1 hi7.2).2.1) ((faa_0_3 _ ht1 _ hi7.1 hi7.2).2.2) wd_592 wd_594 wd_593 wd_15 ⟨(by decide : 1 ≤ ((tp_rm 2) : Room).frames), (by decide : 60 ≤ ((tp_rm 2) : Room).locals)⟩ (Nat.le_of_ble_eq_true rfl) d_X0_keep_43 (fun M8 hM8 => ?_)
      refine j_aload_n rfl d_X0_keep_46 rfl ?_
      refine j_getr fl_Factors_9 ht1 (fam_0_1 _ ht1).1 d_X0_keep_47 ?_
      refine j_iload_n rfl d_X0_keep_50 rfl ?_
      refine j_iload_n rfl d_X0_keep_51 rfl ?_
      refine j_iast ((fam_0_1 _ ht1).2.1) ((fam_0_1 _ ht1).2.2) d_X0_keep_52 (fun M9 hM9 => ?_)
      refine j_aload_n rfl d_X0_keep_53 rfl ?_
      refine j_getr fl_Factors_15 ht1 (fam_0_2 _ ht1).1 d_X0_keep_54 ?_
      refine j_iload_n rfl d_X0_keep_57 rfl ?_
      refine j_iconst ⟨by decide, by decide⟩ d_X0_keep_58 ?_
      refine j_iast ((fam_0_2 _ ht1).2.1) ((fam_0_2 _ ht1).2.2) d_X0_keep_59 (fun M10 hM10 => ?_)
      exact j_wk [true, false, true, true] rfl rfl (T_X0_keep_60 G c0 a1 y5 M10 ht1)
    · exact j_vret d_X0_keep_16 rfl rfl ⟨rfl, rfl⟩
set_option maxHeartbeats 4000000 in
set_option maxRecDepth 100000 in
theorem c_X0_keep (G : tp_G) (c0 : Int) (a0 : Int) (a1 : Int) (M0 : tp_M) (r : tp_M) (h : f_X0_keep c0 a0 a1 M0 = some r) (l : Launch) : Met l y_X0_keep (tp_ws y_X0_keep i_X0_keep) (tp_rm 2) (tp_Pc G [.inr (.inr c0), .inr (.inr a0), .inl a1] tp_NC (tp_st M0)) (tp_Q G (o_X0_keep r)) 0 0 (tp_A G) :=
  tp_met (I := i_X0_keep) (y := y_X0_keep) (by decide +kernel) (Eq.refl "TypesAtPrime$Factors") (Eq.refl "keep") (lv := [some (.inr (.inr c0)), some (.inr (.inr a0)), some (.inl a1), none]) rfl (Nat.le_of_ble_eq_true rfl) (T_X0_keep G c0 a0 a1 M0) h l
theorem wd_631 : (.code ⟨"TypesAtPrime$Factors", "keep", "([II)V"⟩ prog_2_method_11_code 4 (none : Option Jvm.ClassFile.FieldType) : Cond) ∈ lw_tbl := List.mem_append_right _ (List.mem_of_getElem? (i := 631) (by decide +kernel))
theorem cs_Factors_86 : tp_CS "TypesAtPrime$Factors" 86 y_X0_keep i_X0_keep 2 := ⟨wd_631, wd_5, by decide, by decide, by decide +kernel⟩
theorem wd_628 : (.methodLink "TypesAtPrime$Factors" 86 ⟨"TypesAtPrime$Factors", "keep", "([II)V"⟩ : Cond) ∈ lw_tbl := List.mem_append_right _ (List.mem_of_getElem? (i := 628) (by decide +kernel))
theorem wd_630 : (.instanceMethod ⟨"TypesAtPrime$Factors", "keep", "([II)V"⟩ : Cond) ∈ lw_tbl := List.mem_append_right _ (List.mem_of_getElem? (i := 630) (by decide +kernel))
theorem ws_16 : (.selects "TypesAtPrime$Factors" ⟨"TypesAtPrime$Factors", "keep", "([II)V"⟩ ⟨"TypesAtPrime$Factors", "keep", "([II)V"⟩ : Cond) ∈ lw_tbl := List.mem_append_left _ (List.mem_of_getElem? (i := 16) (by decide +kernel))
theorem wd_617 : (.code ⟨"TypesAtPrime$Factors", "writeCandidate", "(II)V"⟩ prog_2_method_10_code 5 (none : Option Jvm.ClassFile.FieldType) : Cond) ∈ lw_tbl := List.mem_append_right _ (List.mem_of_getElem? (i := 617) (by decide +kernel))
theorem cs_Factors_104 : tp_CS "TypesAtPrime$Factors" 104 y_X0_writeCandidate i_X0_writeCandidate 2 := ⟨wd_617, wd_5, by decide, by decide, by decide +kernel⟩
theorem wd_614 : (.methodLink "TypesAtPrime$Factors" 104 ⟨"TypesAtPrime$Factors", "writeCandidate", "(II)V"⟩ : Cond) ∈ lw_tbl := List.mem_append_right _ (List.mem_of_getElem? (i := 614) (by decide +kernel))
theorem wd_616 : (.instanceMethod ⟨"TypesAtPrime$Factors", "writeCandidate", "(II)V"⟩ : Cond) ∈ lw_tbl := List.mem_append_right _ (List.mem_of_getElem? (i := 616) (by decide +kernel))
theorem ws_14 : (.selects "TypesAtPrime$Factors" ⟨"TypesAtPrime$Factors", "writeCandidate", "(II)V"⟩ ⟨"TypesAtPrime$Factors", "writeCandidate", "(II)V"⟩ : Cond) ∈ lw_tbl := List.mem_append_left _ (List.mem_of_getElem? (i := 14) (by decide +kernel))
def y_X0_findOfDegree : MethodName := ⟨"TypesAtPrime$Factors", "findOfDegree", "(I)V"⟩
abbrev i_X0_findOfDegree : tp_I := (prog_2_method_9_code, "TypesAtPrime$Factors", none, 4, "findOfDegree")
abbrev o_X0_findOfDegree : tp_M → tp_O := fun r => (none, tp_NC, tp_st r)
theorem d_X0_findOfDegree_0 : decode prog_2_method_9_code 0 = .ok (.iconst 1, 1) := by decide +kernel
theorem d_X0_findOfDegree_1 : decode prog_2_method_9_code 1 = .ok (.istore_n 2, 1) := by decide +kernel
theorem d_X0_findOfDegree_2 : decode prog_2_method_9_code 2 = .ok (.iconst 0, 1) := by decide +kernel
theorem d_X0_findOfDegree_3 : decode prog_2_method_9_code 3 = .ok (.istore_n 3, 1) := by decide +kernel
theorem d_X0_findOfDegree_4 : decode prog_2_method_9_code 4 = .ok (.iload_n 3, 1) := by decide +kernel
theorem d_X0_findOfDegree_5 : decode prog_2_method_9_code 5 = .ok (.iload_n 1, 1) := by decide +kernel
theorem d_X0_findOfDegree_6 : decode prog_2_method_9_code 6 = .ok (.if_icmp .ge 16, 3) := by decide +kernel
theorem d_X0_findOfDegree_9 : decode prog_2_method_9_code 9 = .ok (.iload_n 2, 1) := by decide +kernel
theorem d_X0_findOfDegree_10 : decode prog_2_method_9_code 10 = .ok (.aload_n 0, 1) := by decide +kernel
theorem d_X0_findOfDegree_11 : decode prog_2_method_9_code 11 = .ok (.getfield 51, 3) := by decide +kernel
theorem d_X0_findOfDegree_14 : decode prog_2_method_9_code 14 = .ok (.imul, 1) := by decide +kernel
theorem d_X0_findOfDegree_15 : decode prog_2_method_9_code 15 = .ok (.istore_n 2, 1) := by decide +kernel
theorem d_X0_findOfDegree_16 : decode prog_2_method_9_code 16 = .ok (.iinc 3 1, 3) := by decide +kernel
theorem d_X0_findOfDegree_19 : decode prog_2_method_9_code 19 = .ok (.goto (-15), 3) := by decide +kernel
theorem d_X0_findOfDegree_22 : decode prog_2_method_9_code 22 = .ok (.iconst 0, 1) := by decide +kernel
theorem d_X0_findOfDegree_23 : decode prog_2_method_9_code 23 = .ok (.istore_n 3, 1) := by decide +kernel
theorem d_X0_findOfDegree_24 : decode prog_2_method_9_code 24 = .ok (.iload_n 3, 1) := by decide +kernel
theorem d_X0_findOfDegree_25 : decode prog_2_method_9_code 25 = .ok (.iload_n 2, 1) := by decide +kernel
theorem d_X0_findOfDegree_26 : decode prog_2_method_9_code 26 = .ok (.if_icmp .ge 51, 3) := by decide +kernel
theorem d_X0_findOfDegree_29 : decode prog_2_method_9_code 29 = .ok (.aload_n 0, 1) := by decide +kernel
theorem d_X0_findOfDegree_30 : decode prog_2_method_9_code 30 = .ok (.getfield 32, 3) := by decide +kernel
theorem d_X0_findOfDegree_33 : decode prog_2_method_9_code 33 = .ok (.invokestatic 58, 3) := by decide +kernel
theorem d_X0_findOfDegree_36 : decode prog_2_method_9_code 36 = .ok (.iload_n 1, 1) := by decide +kernel
theorem d_X0_findOfDegree_37 : decode prog_2_method_9_code 37 = .ok (.if_icmp .le 40, 3) := by decide +kernel
theorem d_X0_findOfDegree_40 : decode prog_2_method_9_code 40 = .ok (.aload_n 0, 1) := by decide +kernel
theorem d_X0_findOfDegree_41 : decode prog_2_method_9_code 41 = .ok (.iload_n 3, 1) := by decide +kernel
theorem d_X0_findOfDegree_42 : decode prog_2_method_9_code 42 = .ok (.iload_n 1, 1) := by decide +kernel
theorem d_X0_findOfDegree_43 : decode prog_2_method_9_code 43 = .ok (.invokevirtual 104, 3) := by decide +kernel
theorem d_X0_findOfDegree_46 : decode prog_2_method_9_code 46 = .ok (.aload_n 0, 1) := by decide +kernel
theorem d_X0_findOfDegree_47 : decode prog_2_method_9_code 47 = .ok (.aload_n 0, 1) := by decide +kernel
theorem d_X0_findOfDegree_48 : decode prog_2_method_9_code 48 = .ok (.getfield 32, 3) := by decide +kernel
theorem d_X0_findOfDegree_51 : decode prog_2_method_9_code 51 = .ok (.aload_n 0, 1) := by decide +kernel
theorem d_X0_findOfDegree_52 : decode prog_2_method_9_code 52 = .ok (.getfield 41, 3) := by decide +kernel
theorem d_X0_findOfDegree_55 : decode prog_2_method_9_code 55 = .ok (.iload_n 1, 1) := by decide +kernel
theorem d_X0_findOfDegree_56 : decode prog_2_method_9_code 56 = .ok (.invokevirtual 108, 3) := by decide +kernel
theorem d_X0_findOfDegree_59 : decode prog_2_method_9_code 59 = .ok (.ifCond .eq 12, 3) := by decide +kernel
theorem d_X0_findOfDegree_62 : decode prog_2_method_9_code 62 = .ok (.aload_n 0, 1) := by decide +kernel
theorem d_X0_findOfDegree_63 : decode prog_2_method_9_code 63 = .ok (.aload_n 0, 1) := by decide +kernel
theorem d_X0_findOfDegree_64 : decode prog_2_method_9_code 64 = .ok (.getfield 41, 3) := by decide +kernel
theorem d_X0_findOfDegree_67 : decode prog_2_method_9_code 67 = .ok (.iload_n 1, 1) := by decide +kernel
theorem d_X0_findOfDegree_68 : decode prog_2_method_9_code 68 = .ok (.invokevirtual 86, 3) := by decide +kernel
theorem d_X0_findOfDegree_71 : decode prog_2_method_9_code 71 = .ok (.iinc 3 1, 3) := by decide +kernel
theorem d_X0_findOfDegree_74 : decode prog_2_method_9_code 74 = .ok (.goto (-50), 3) := by decide +kernel
theorem d_X0_findOfDegree_77 : decode prog_2_method_9_code 77 = .ok (.aload_n 0, 1) := by decide +kernel
theorem d_X0_findOfDegree_78 : decode prog_2_method_9_code 78 = .ok (.getfield 32, 3) := by decide +kernel
theorem d_X0_findOfDegree_81 : decode prog_2_method_9_code 81 = .ok (.invokestatic 58, 3) := by decide +kernel
theorem d_X0_findOfDegree_84 : decode prog_2_method_9_code 84 = .ok (.iload_n 1, 1) := by decide +kernel
theorem d_X0_findOfDegree_85 : decode prog_2_method_9_code 85 = .ok (.if_icmp .ne 12, 3) := by decide +kernel
theorem d_X0_findOfDegree_88 : decode prog_2_method_9_code 88 = .ok (.aload_n 0, 1) := by decide +kernel
theorem d_X0_findOfDegree_89 : decode prog_2_method_9_code 89 = .ok (.aload_n 0, 1) := by decide +kernel
theorem d_X0_findOfDegree_90 : decode prog_2_method_9_code 90 = .ok (.getfield 32, 3) := by decide +kernel
theorem d_X0_findOfDegree_93 : decode prog_2_method_9_code 93 = .ok (.iload_n 1, 1) := by decide +kernel
theorem d_X0_findOfDegree_94 : decode prog_2_method_9_code 94 = .ok (.invokevirtual 86, 3) := by decide +kernel
theorem d_X0_findOfDegree_97 : decode prog_2_method_9_code 97 = .ok (.return_, 1) := by decide +kernel
def f_X0_findOfDegree_77 (x0 : Int) (x1 : Int) (M0 : tp_M) : Option (tp_M) :=
  (f_X10_degreeOf (x0 + 16) M0).bind fun r4 =>
  if ¬ r4 = x1 then
    some M0
  else
    (f_X0_keep x0 (x0 + 16) x1 M0).bind fun r7 =>
    some r7
set_option maxHeartbeats 4000000 in
set_option maxRecDepth 100000 in
theorem T_X0_findOfDegree_77 (G : tp_G) (x0 : Int) (x1 : Int) (M0 : tp_M) (hg_x0 : tp_tg x0 = 0) : tp_J i_X0_findOfDegree (tp_rm 3) G 0 0 o_X0_findOfDegree tp_NC (tp_st M0) 0 0 [some (.inr (.inr x0)), some (.inl x1), none, none] 77 [] (f_X0_findOfDegree_77 x0 x1 M0) := by
  unfold f_X0_findOfDegree_77
  refine j_aload_n rfl d_X0_findOfDegree_77 rfl ?_
  refine j_getr fl_Factors_32 hg_x0 (fam_0_8 _ hg_x0).1 d_X0_findOfDegree_78 ?_
  refine j_bind (fun r4 h5 => ?_)
  refine j_callSN (y := y_X10_degreeOf) (I' := i_X10_degreeOf) (avs := [.inr (.inr (x0 + 16))]) (st := []) (c_X10_degreeOf G (x0 + 16) M0 r4 h5) cs_Factors_58 (by decide +kernel : (.methodLinkNest "TypesAtPrime$Factors" 58 ⟨"TypesAtPrime", "degreeOf", "([I)I"⟩ "TypesAtPrime" : Cond) ∈ tp_nest) wd_517 rfl rfl (Nat.le_of_ble_eq_true rfl) ⟨rfl, rfl⟩ ⟨by decide, by decide⟩ ⟨by decide, by decide⟩ d_X0_findOfDegree_81 ?_
  refine j_iload_n rfl d_X0_findOfDegree_84 rfl ?_
  refine j_icmp_ne (tgt := 97) d_X0_findOfDegree_85 (by decide) (fun h6 => ?_) (fun h6 => ?_)
  · exact j_vret d_X0_findOfDegree_97 rfl rfl ⟨rfl, rfl⟩
  · refine j_aload_n rfl d_X0_findOfDegree_88 rfl ?_
    refine j_aload_n rfl d_X0_findOfDegree_89 rfl ?_
    refine j_getr fl_Factors_32 hg_x0 (fam_0_8 _ hg_x0).1 d_X0_findOfDegree_90 ?_
    refine j_iload_n rfl d_X0_findOfDegree_93 rfl ?_
    refine j_bind (fun r7 h8 => ?_)
    refine j_callV (y := y_X0_keep) (I' := i_X0_keep) (avs := [.inr (.inr (x0 + 16)), .inl x1]) (c := x0) (st := []) (c_X0_keep G x0 (x0 + 16) x1 M0 r7 h8) cs_Factors_86 wd_628 wd_630 ws_16 hg_x0 rfl rfl rfl (Nat.le_of_ble_eq_true rfl) ⟨rfl, rfl⟩ ⟨by decide, by decide⟩ ⟨by decide, by decide⟩ d_X0_findOfDegree_94 ?_
    exact j_vret d_X0_findOfDegree_97 rfl rfl ⟨rfl, rfl⟩
def f_X0_findOfDegree_71 (rec_24 : Int → tp_M → Option (tp_M)) (x0 : Int) (x1 : Int) (x2 : Int) (x3 : Int) (M0 : tp_M) : Option (tp_M) :=
  tp_lt (tp_w (x3 + 1)) fun y17 =>
  rec_24 y17 M0
set_option maxHeartbeats 4000000 in
set_option maxRecDepth 100000 in
theorem T_X0_findOfDegree_71 (G : tp_G) (rec_24 : Int → tp_M → Option (tp_M)) (x0 : Int) (x1 : Int) (x2 : Int) (x3 : Int) (M0 : tp_M) (hrec_24 : ∀ (x3' : Int) (M' : tp_M), tp_J i_X0_findOfDegree (tp_rm 3) G 0 0 o_X0_findOfDegree tp_NC (tp_st M') 0 0 [some (.inr (.inr x0)), some (.inl x1), some (.inl x2), some (.inl (x3'))] 24 [] (rec_24 x3' M')) (hg_x0 : tp_tg x0 = 0) : tp_J i_X0_findOfDegree (tp_rm 3) G 0 0 o_X0_findOfDegree tp_NC (tp_st M0) 0 0 [some (.inr (.inr x0)), some (.inl x1), some (.inl x2), some (.inl x3)] 71 [] (f_X0_findOfDegree_71 rec_24 x0 x1 x2 x3 M0) := by
  unfold f_X0_findOfDegree_71
  refine j_iincN (lv' := fun y17 => [some (.inr (.inr x0)), some (.inl x1), some (.inl x2), some (.inl y17)]) d_X0_findOfDegree_71 rfl (Nat.le_of_ble_eq_true rfl) (fun _ => rfl) (fun y17 hy17 => ?_)
  refine j_goto (tgt := 24) d_X0_findOfDegree_74 (by decide) ?_
  exact j_wk [true, true, true, true] rfl rfl (hrec_24 y17 M0)
def f_X0_findOfDegree_24B (x0 : Int) (x1 : Int) (x2 : Int) (rec_24 : Int → tp_M → Option (tp_M)) (x3 : Int) (M0 : tp_M) : Option (tp_M) :=
  if x2 ≤ x3 then
    f_X0_findOfDegree_77 x0 x1 M0
  else
    (f_X10_degreeOf (x0 + 16) M0).bind fun r9 =>
    if r9 ≤ x1 then
      f_X0_findOfDegree_77 x0 x1 M0
    else
      (f_X0_writeCandidate x0 x3 x1 M0).bind fun r12 =>
      (f_X0_splitOff x0 (x0 + 16) (x0 + 19) x1 r12).bind fun r14 =>
      if r14.1 = 0 then
        f_X0_findOfDegree_71 rec_24 x0 x1 x2 x3 r14.2
      else
        (f_X0_keep x0 (x0 + 19) x1 r14.2).bind fun r18 =>
        f_X0_findOfDegree_71 rec_24 x0 x1 x2 x3 r18
set_option maxHeartbeats 4000000 in
set_option maxRecDepth 100000 in
theorem T_X0_findOfDegree_24B (G : tp_G) (x0 : Int) (x1 : Int) (x2 : Int) (hg_x0 : tp_tg x0 = 0) (rec_24 : Int → tp_M → Option (tp_M)) (hrec_24 : ∀ (x3' : Int) (M' : tp_M), tp_J i_X0_findOfDegree (tp_rm 3) G 0 0 o_X0_findOfDegree tp_NC (tp_st M') 0 0 [some (.inr (.inr x0)), some (.inl x1), some (.inl x2), some (.inl (x3'))] 24 [] (rec_24 x3' M')) (x3 : Int) (M0 : tp_M) : tp_J i_X0_findOfDegree (tp_rm 3) G 0 0 o_X0_findOfDegree tp_NC (tp_st M0) 0 0 [some (.inr (.inr x0)), some (.inl x1), some (.inl x2), some (.inl x3)] 24 [] (f_X0_findOfDegree_24B x0 x1 x2 rec_24 x3 M0) := by
  unfold f_X0_findOfDegree_24B
  refine j_iload_n rfl d_X0_findOfDegree_24 rfl ?_
  refine j_iload_n rfl d_X0_findOfDegree_25 rfl ?_
  refine j_icmp_ge (tgt := 77) d_X0_findOfDegree_26 (by decide) (fun h3 => ?_) (fun h3 => ?_)
  · exact j_wk [true, true, false, false] rfl rfl (T_X0_findOfDegree_77 G x0 x1 M0 hg_x0)
  · refine j_aload_n rfl d_X0_findOfDegree_29 rfl ?_
    refine j_getr fl_Factors_32 hg_x0 (fam_0_8 _ hg_x0).1 d_X0_findOfDegree_30 ?_
    refine j_bind (fun r9 h10 => ?_)
    refine j_callSN (y := y_X10_degreeOf) (I' := i_X10_degreeOf) (avs := [.inr (.inr (x0 + 16))]) (st := []) (c_X10_degreeOf G (x0 + 16) M0 r9 h10) cs_Factors_58 (by decide +kernel : (.methodLinkNest "TypesAtPrime$Factors" 58 ⟨"TypesAtPrime", "degreeOf", "([I)I"⟩ "TypesAtPrime" : Cond) ∈ tp_nest) wd_517 rfl rfl (Nat.le_of_ble_eq_true rfl) ⟨rfl, rfl⟩ ⟨by decide, by decide⟩ ⟨by decide, by decide⟩ d_X0_findOfDegree_33 ?_
    refine j_iload_n rfl d_X0_findOfDegree_36 rfl ?_
    refine j_icmp_le (tgt := 77) d_X0_findOfDegree_37 (by decide) (fun h11 => ?_) (fun h11 => ?_)
    · exact j_wk [true, true, false, false] rfl rfl (T_X0_findOfDegree_77 G x0 x1 M0 hg_x0)
    · refine j_aload_n rfl d_X0_findOfDegree_40 rfl ?_
      refine j_iload_n rfl d_X0_findOfDegree_41 rfl ?_
      refine j_iload_n rfl d_X0_findOfDegree_42 rfl ?_
      refine j_bind (fun r12 h13 => ?_)
      refine j_callV (y := y_X0_writeCandidate) (I' := i_X0_writeCandidate) (avs := [.inl x3, .inl x1]) (c := x0) (st := []) (c_X0_writeCandidate G x0 x3 x1 M0 r12 h13) cs_Factors_104 wd_614 wd_616 ws_14 hg_x0 rfl rfl rfl (Nat.le_of_ble_eq_true rfl) ⟨rfl, rfl⟩ ⟨by decide, by decide⟩ ⟨by decide, by decide⟩ d_X0_findOfDegree_43 ?_
      refine j_aload_n rfl d_X0_findOfDegree_46 rfl ?_
      refine j_aload_n rfl d_X0_findOfDegree_47 rfl ?_
      refine j_getr fl_Factors_32 hg_x0 (fam_0_8 _ hg_x0).1 d_X0_findOfDegree_48 ?_
      refine j_aload_n rfl d_X0_findOfDegree_51 rfl ?_
      refine j_getr fl_Factors_41 hg_x0 (fam_0_11 _ hg_x0).1 d_X0_findOfDegree_52 ?_
      refine j_iload_n rfl d_X0_findOfDegree_55 rfl ?_
      refine j_bind (fun r14 h15 => ?_)
      refine j_callV (y := y_X0_splitOff) (I' := i_X0_splitOff) (avs := [.inr (.inr (x0 + 16)), .inr (.inr (x0 + 19)), .inl x1]) (c := x0) (st := []) (c_X0_splitOff G x0 (x0 + 16) (x0 + 19) x1 r12 r14 h15) cs_Factors_108 wd_624 wd_626 ws_15 hg_x0 rfl rfl rfl (Nat.le_of_ble_eq_true rfl) ⟨rfl, rfl⟩ ⟨by decide, by decide⟩ ⟨by decide, by decide⟩ d_X0_findOfDegree_56 ?_
      refine j_if_eq (tgt := 71) d_X0_findOfDegree_59 (by decide) (fun h16 => ?_) (fun h16 => ?_)
      · exact j_wk [true, true, true, true] rfl rfl (T_X0_findOfDegree_71 G rec_24 x0 x1 x2 x3 r14.2 hrec_24 hg_x0)
      · refine j_aload_n rfl d_X0_findOfDegree_62 rfl ?_
        refine j_aload_n rfl d_X0_findOfDegree_63 rfl ?_
        refine j_getr fl_Factors_41 hg_x0 (fam_0_11 _ hg_x0).1 d_X0_findOfDegree_64 ?_
        refine j_iload_n rfl d_X0_findOfDegree_67 rfl ?_
        refine j_bind (fun r18 h19 => ?_)
        refine j_callV (y := y_X0_keep) (I' := i_X0_keep) (avs := [.inr (.inr (x0 + 19)), .inl x1]) (c := x0) (st := []) (c_X0_keep G x0 (x0 + 19) x1 r14.2 r18 h19) cs_Factors_86 wd_628 wd_630 ws_16 hg_x0 rfl rfl rfl (Nat.le_of_ble_eq_true rfl) ⟨rfl, rfl⟩ ⟨by decide, by decide⟩ ⟨by decide, by decide⟩ d_X0_findOfDegree_68 ?_
        exact j_wk [true, true, true, true] rfl rfl (T_X0_findOfDegree_71 G rec_24 x0 x1 x2 x3 r18 hrec_24 hg_x0)
def f_X0_findOfDegree_24 (x0 : Int) (x1 : Int) (x2 : Int) (x3 : Int) (M0 : tp_M) : Option (tp_M) := tp_lp (σ := Int × tp_M) (fun rec_ u => f_X0_findOfDegree_24B x0 x1 x2 (fun x3' M0' => rec_ (x3', M0')) u.1 u.2) tp_N (x3, M0)
set_option maxHeartbeats 4000000 in
set_option maxRecDepth 100000 in
theorem T_X0_findOfDegree_24 (G : tp_G) (x0 : Int) (x1 : Int) (x2 : Int) (x3 : Int) (M0 : tp_M) (hg_x0 : tp_tg x0 = 0) : tp_J i_X0_findOfDegree (tp_rm 3) G 0 0 o_X0_findOfDegree tp_NC (tp_st M0) 0 0 [some (.inr (.inr x0)), some (.inl x1), some (.inl x2), some (.inl x3)] 24 [] (f_X0_findOfDegree_24 x0 x1 x2 x3 M0) := by
  unfold f_X0_findOfDegree_24
  exact j_lp (σ := Int × tp_M) (n' := fun _ => tp_NC) (g' := fun u => tp_st u.2) (k' := fun _ => 0) (q' := fun _ => 0) (lv' := fun u => [some (.inr (.inr x0)), some (.inl x1), some (.inl x2), some (.inl u.1)]) (fun rec_ hrec u => T_X0_findOfDegree_24B G x0 x1 x2 hg_x0 (fun x3' M0' => rec_ (x3', M0')) (fun x3' M0' => hrec (x3', M0')) u.1 u.2) tp_N (x3, M0)
def f_X0_findOfDegree_4B (x0 : Int) (x1 : Int) (M0 : tp_M) (rec_4 : Int → Int → Option (tp_M)) (x2 : Int) (x3 : Int) : Option (tp_M) :=
  if x1 ≤ x3 then
    f_X0_findOfDegree_24 x0 x1 x2 0 M0
  else
    tp_lt ((tp_w (x2 * (M0 x0 4)))) fun y20 =>
    tp_lt (tp_w (x3 + 1)) fun y21 =>
    rec_4 y20 y21
set_option maxHeartbeats 4000000 in
set_option maxRecDepth 100000 in
theorem T_X0_findOfDegree_4B (G : tp_G) (x0 : Int) (x1 : Int) (M0 : tp_M) (hg_x0 : tp_tg x0 = 0) (rec_4 : Int → Int → Option (tp_M)) (hrec_4 : ∀ (x2' x3' : Int), tp_J i_X0_findOfDegree (tp_rm 3) G 0 0 o_X0_findOfDegree tp_NC (tp_st M0) 0 0 [some (.inr (.inr x0)), some (.inl x1), some (.inl (x2')), some (.inl (x3'))] 4 [] (rec_4 x2' x3')) (x2 : Int) (x3 : Int) : tp_J i_X0_findOfDegree (tp_rm 3) G 0 0 o_X0_findOfDegree tp_NC (tp_st M0) 0 0 [some (.inr (.inr x0)), some (.inl x1), some (.inl x2), some (.inl x3)] 4 [] (f_X0_findOfDegree_4B x0 x1 M0 rec_4 x2 x3) := by
  unfold f_X0_findOfDegree_4B
  refine j_iload_n rfl d_X0_findOfDegree_4 rfl ?_
  refine j_iload_n rfl d_X0_findOfDegree_5 rfl ?_
  refine j_icmp_ge (tgt := 22) d_X0_findOfDegree_6 (by decide) (fun h2 => ?_) (fun h2 => ?_)
  · refine j_iconst ⟨by decide, by decide⟩ d_X0_findOfDegree_22 ?_
    refine j_istore_n (lv' := [some (.inr (.inr x0)), some (.inl x1), some (.inl x2), some (.inl 0)]) rfl d_X0_findOfDegree_23 (Nat.le_of_ble_eq_true rfl) rfl ?_
    exact j_wk [true, true, true, true] rfl rfl (T_X0_findOfDegree_24 G x0 x1 x2 0 M0 hg_x0)
  · refine j_iload_n rfl d_X0_findOfDegree_9 rfl ?_
    refine j_aload_n rfl d_X0_findOfDegree_10 rfl ?_
    refine j_geti fl_Factors_51 hg_x0 d_X0_findOfDegree_11 ?_
    refine j_imul d_X0_findOfDegree_14 ?_
    refine j_nmI (fun y20 hy20 => ?_)
    refine j_istore_n (lv' := [some (.inr (.inr x0)), some (.inl x1), some (.inl y20), some (.inl x3)]) rfl d_X0_findOfDegree_15 (Nat.le_of_ble_eq_true rfl) rfl ?_
    refine j_iincN (lv' := fun y21 => [some (.inr (.inr x0)), some (.inl x1), some (.inl y20), some (.inl y21)]) d_X0_findOfDegree_16 rfl (Nat.le_of_ble_eq_true rfl) (fun _ => rfl) (fun y21 hy21 => ?_)
    refine j_goto (tgt := 4) d_X0_findOfDegree_19 (by decide) ?_
    exact j_wk [true, true, true, true] rfl rfl (hrec_4 y20 y21)
def f_X0_findOfDegree_4 (x0 : Int) (x1 : Int) (x2 : Int) (x3 : Int) (M0 : tp_M) : Option (tp_M) := tp_lp (σ := Int × Int) (fun rec_ u => f_X0_findOfDegree_4B x0 x1 M0 (fun x2' x3' => rec_ (x2', x3')) u.1 u.2) tp_N (x2, x3)
set_option maxHeartbeats 4000000 in
set_option maxRecDepth 100000 in
theorem T_X0_findOfDegree_4 (G : tp_G) (x0 : Int) (x1 : Int) (x2 : Int) (x3 : Int) (M0 : tp_M) (hg_x0 : tp_tg x0 = 0) : tp_J i_X0_findOfDegree (tp_rm 3) G 0 0 o_X0_findOfDegree tp_NC (tp_st M0) 0 0 [some (.inr (.inr x0)), some (.inl x1), some (.inl x2), some (.inl x3)] 4 [] (f_X0_findOfDegree_4 x0 x1 x2 x3 M0) := by
  unfold f_X0_findOfDegree_4
  exact j_lp (σ := Int × Int) (n' := fun _ => tp_NC) (g' := fun u => tp_st M0) (k' := fun _ => 0) (q' := fun _ => 0) (lv' := fun u => [some (.inr (.inr x0)), some (.inl x1), some (.inl u.1), some (.inl u.2)]) (fun rec_ hrec u => T_X0_findOfDegree_4B G x0 x1 M0 hg_x0 (fun x2' x3' => rec_ (x2', x3')) (fun x2' x3' => hrec (x2', x3')) u.1 u.2) tp_N (x2, x3)
def f_X0_findOfDegree (c0 : Int) (a0 : Int) (M0 : tp_M) : Option (tp_M) :=
  if tp_tg c0 = 0 then
    f_X0_findOfDegree_4 c0 a0 1 0 M0 else none
set_option maxHeartbeats 4000000 in
set_option maxRecDepth 100000 in
theorem T_X0_findOfDegree (G : tp_G) (c0 : Int) (a0 : Int) (M0 : tp_M) : tp_J i_X0_findOfDegree (tp_rm 3) G 0 0 o_X0_findOfDegree tp_NC (tp_st M0) 0 0 [some (.inr (.inr c0)), some (.inl a0), none, none] 0 [] (f_X0_findOfDegree c0 a0 M0) := by
  unfold f_X0_findOfDegree
  refine tp_chk (fun ht1 => ?_)
  refine j_iconst ⟨by decide, by decide⟩ d_X0_findOfDegree_0 ?_
  refine j_istore_n (lv' := [some (.inr (.inr c0)), some (.inl a0), some (.inl 1), none]) rfl d_X0_findOfDegree_1 (Nat.le_of_ble_eq_true rfl) rfl ?_
  refine j_iconst ⟨by decide, by decide⟩ d_X0_findOfDegree_2 ?_
  refine j_istore_n (lv' := [some (.inr (.inr c0)), some (.inl a0), some (.inl 1), some (.inl 0)]) rfl d_X0_findOfDegree_3 (Nat.le_of_ble_eq_true rfl) rfl ?_
  exact j_wk [true, true, true, true] rfl rfl (T_X0_findOfDegree_4 G c0 a0 1 0 M0 ht1)
set_option maxHeartbeats 4000000 in
set_option maxRecDepth 100000 in
theorem c_X0_findOfDegree (G : tp_G) (c0 : Int) (a0 : Int) (M0 : tp_M) (r : tp_M) (h : f_X0_findOfDegree c0 a0 M0 = some r) (l : Launch) : Met l y_X0_findOfDegree (tp_ws y_X0_findOfDegree i_X0_findOfDegree) (tp_rm 3) (tp_Pc G [.inr (.inr c0), .inl a0] tp_NC (tp_st M0)) (tp_Q G (o_X0_findOfDegree r)) 0 0 (tp_A G) :=
  tp_met (I := i_X0_findOfDegree) (y := y_X0_findOfDegree) (by decide +kernel) (Eq.refl "TypesAtPrime$Factors") (Eq.refl "findOfDegree") (lv := [some (.inr (.inr c0)), some (.inl a0), none, none]) rfl (Nat.le_of_ble_eq_true rfl) (T_X0_findOfDegree G c0 a0 M0) h l
