def y_X11_residual : MethodName := ⟨"TypesAtPrimeModel", "residual", "(III)I"⟩
abbrev i_X11_residual : tp_I := (prog_13_method_78_code, "TypesAtPrimeModel", (some .int), 4, "residual")
abbrev o_X11_residual (M : tp_M) : Int → tp_O := fun r => (some (.inl r), tp_NC, tp_st M)
theorem d_X11_residual_0 : decode prog_13_method_78_code 0 = .ok (.iload_n 3, 1) := by decide +kernel
theorem d_X11_residual_1 : decode prog_13_method_78_code 1 = .ok (.invokestatic 243, 3) := by decide +kernel
theorem d_X11_residual_4 : decode prog_13_method_78_code 4 = .ok (.ifCond .ne 5, 3) := by decide +kernel
theorem d_X11_residual_7 : decode prog_13_method_78_code 7 = .ok (.iconst (-1), 1) := by decide +kernel
theorem d_X11_residual_8 : decode prog_13_method_78_code 8 = .ok (.ireturn, 1) := by decide +kernel
theorem d_X11_residual_9 : decode prog_13_method_78_code 9 = .ok (.aload_n 0, 1) := by decide +kernel
theorem d_X11_residual_10 : decode prog_13_method_78_code 10 = .ok (.iload_n 1, 1) := by decide +kernel
theorem d_X11_residual_11 : decode prog_13_method_78_code 11 = .ok (.iload_n 2, 1) := by decide +kernel
theorem d_X11_residual_12 : decode prog_13_method_78_code 12 = .ok (.invokevirtual 429, 3) := by decide +kernel
theorem d_X11_residual_15 : decode prog_13_method_78_code 15 = .ok (.ifCond .eq 24, 3) := by decide +kernel
theorem d_X11_residual_18 : decode prog_13_method_78_code 18 = .ok (.aload_n 0, 1) := by decide +kernel
theorem d_X11_residual_19 : decode prog_13_method_78_code 19 = .ok (.getfield 104, 3) := by decide +kernel
theorem d_X11_residual_22 : decode prog_13_method_78_code 22 = .ok (.bipush 9, 2) := by decide +kernel
theorem d_X11_residual_24 : decode prog_13_method_78_code 24 = .ok (.aload_n 0, 1) := by decide +kernel
theorem d_X11_residual_25 : decode prog_13_method_78_code 25 = .ok (.getfield 56, 3) := by decide +kernel
theorem d_X11_residual_28 : decode prog_13_method_78_code 28 = .ok (.iload_n 1, 1) := by decide +kernel
theorem d_X11_residual_29 : decode prog_13_method_78_code 29 = .ok (.iaload, 1) := by decide +kernel
theorem d_X11_residual_30 : decode prog_13_method_78_code 30 = .ok (.iload_n 2, 1) := by decide +kernel
theorem d_X11_residual_31 : decode prog_13_method_78_code 31 = .ok (.iadd, 1) := by decide +kernel
theorem d_X11_residual_32 : decode prog_13_method_78_code 32 = .ok (.imul, 1) := by decide +kernel
theorem d_X11_residual_33 : decode prog_13_method_78_code 33 = .ok (.iload_n 3, 1) := by decide +kernel
theorem d_X11_residual_34 : decode prog_13_method_78_code 34 = .ok (.iadd, 1) := by decide +kernel
theorem d_X11_residual_35 : decode prog_13_method_78_code 35 = .ok (.iaload, 1) := by decide +kernel
theorem d_X11_residual_36 : decode prog_13_method_78_code 36 = .ok (.goto 5, 3) := by decide +kernel
theorem d_X11_residual_39 : decode prog_13_method_78_code 39 = .ok (.bipush (-2), 2) := by decide +kernel
theorem d_X11_residual_41 : decode prog_13_method_78_code 41 = .ok (.ireturn, 1) := by decide +kernel
def f_X11_residual (a0 : Int) (a1 : Int) (a2 : Int) (M0 : tp_M) : Option (Int) :=
  (f_X11_isPower a2 M0).bind fun r1 =>
  if ¬ r1 = 0 then
    (f_X11_isSide a0 a1 M0).bind fun r4 =>
    if r4 = 0 then
      some (-2)
    else
      if 0 ≤ a0 ∧ a0 < 40 then
        if 0 ≤ (tp_w ((tp_w (9 * (tp_w ((M0 499 a0) + a1)))) + a2)) ∧ (tp_w ((tp_w (9 * (tp_w ((M0 499 a0) + a1)))) + a2)) < 576 then
          some (M0 515 (tp_w ((tp_w (9 * (tp_w ((M0 499 a0) + a1)))) + a2))) else none else none
  else
    some (-1)
set_option maxHeartbeats 4000000 in
set_option maxRecDepth 100000 in
theorem T_X11_residual (G : tp_G) (a0 : Int) (a1 : Int) (a2 : Int) (M0 : tp_M) : tp_J i_X11_residual (tp_rm 3) G 0 0 (o_X11_residual M0) tp_NC (tp_st M0) 0 0 [some (.inr (.inr 483)), some (.inl a0), some (.inl a1), some (.inl a2)] 0 [] (f_X11_residual a0 a1 a2 M0) := by
  unfold f_X11_residual
  refine j_iload_n rfl d_X11_residual_0 rfl ?_
  refine j_bind (fun r1 h2 => ?_)
  refine j_callS (y := y_X11_isPower) (I' := i_X11_isPower) (avs := [.inl a2]) (st := []) (c_X11_isPower G a2 M0 r1 h2) cs_Model_243 wd_1302 wd_1303 rfl rfl (Nat.le_of_ble_eq_true rfl) ⟨rfl, rfl⟩ ⟨by decide, by decide⟩ ⟨by decide, by decide⟩ d_X11_residual_1 ?_
  refine j_if_ne (tgt := 9) d_X11_residual_4 (by decide) (fun h3 => ?_) (fun h3 => ?_)
  · refine j_aload_n rfl d_X11_residual_9 rfl ?_
    refine j_iload_n rfl d_X11_residual_10 rfl ?_
    refine j_iload_n rfl d_X11_residual_11 rfl ?_
    refine j_bind (fun r4 h5 => ?_)
    refine j_callV (y := y_X11_isSide) (I' := i_X11_isSide) (avs := [.inl a0, .inl a1]) (c := 483) (st := []) (c_X11_isSide G a0 a1 M0 r4 h5) cs_Model_429 wd_1534 wd_1536 ws_88 tg_483 rfl rfl rfl (Nat.le_of_ble_eq_true rfl) ⟨rfl, rfl⟩ ⟨by decide, by decide⟩ ⟨by decide, by decide⟩ d_X11_residual_12 ?_
    refine j_if_eq (tgt := 39) d_X11_residual_15 (by decide) (fun h6 => ?_) (fun h6 => ?_)
    · refine j_bipush ⟨by decide, by decide⟩ (by decide +kernel) d_X11_residual_39 ?_
      exact j_iret d_X11_residual_41 rfl rfl ⟨rfl, rfl⟩
    · refine j_aload_n rfl d_X11_residual_18 rfl ?_
      refine j_getr fl_Model_104 tg_483 rv_483_43 d_X11_residual_19 ?_
      refine j_bipush ⟨by decide, by decide⟩ (by decide +kernel) d_X11_residual_22 ?_
      refine j_aload_n rfl d_X11_residual_24 rfl ?_
      refine j_getr fl_Model_56 tg_483 rv_483_27 d_X11_residual_25 ?_
      refine j_iload_n rfl d_X11_residual_28 rfl ?_
      refine j_iald tg_499 al_499 d_X11_residual_29 ?_
      refine j_iload_n rfl d_X11_residual_30 rfl ?_
      refine j_iadd d_X11_residual_31 ?_
      refine j_imul d_X11_residual_32 ?_
      refine j_iload_n rfl d_X11_residual_33 rfl ?_
      refine j_iadd d_X11_residual_34 ?_
      refine j_iald tg_515 al_515 d_X11_residual_35 ?_
      refine j_goto (tgt := 41) d_X11_residual_36 (by decide) ?_
      exact j_iret d_X11_residual_41 rfl rfl ⟨rfl, rfl⟩
  · refine j_iconst ⟨by decide, by decide⟩ d_X11_residual_7 ?_
    exact j_iret d_X11_residual_8 rfl rfl ⟨rfl, rfl⟩
set_option maxHeartbeats 4000000 in
set_option maxRecDepth 100000 in
theorem c_X11_residual (G : tp_G) (a0 : Int) (a1 : Int) (a2 : Int) (M0 : tp_M) (r : Int) (h : f_X11_residual a0 a1 a2 M0 = some r) (l : Launch) : Met l y_X11_residual (tp_ws y_X11_residual i_X11_residual) (tp_rm 3) (tp_Pc G [.inr (.inr 483), .inl a0, .inl a1, .inl a2] tp_NC (tp_st M0)) (tp_Q G ((o_X11_residual M0) r)) 0 0 (tp_A G) :=
  tp_met (I := i_X11_residual) (y := y_X11_residual) (by decide +kernel) (Eq.refl "TypesAtPrimeModel") (Eq.refl "residual") (lv := [some (.inr (.inr 483)), some (.inl a0), some (.inl a1), some (.inl a2)]) rfl (Nat.le_of_ble_eq_true rfl) (T_X11_residual G a0 a1 a2 M0) h l
def y_X11_monomial : MethodName := ⟨"TypesAtPrimeModel", "monomial", "(III)I"⟩
abbrev i_X11_monomial : tp_I := (prog_13_method_79_code, "TypesAtPrimeModel", (some .int), 4, "monomial")
abbrev o_X11_monomial (M : tp_M) : Int → tp_O := fun r => (some (.inl r), tp_NC, tp_st M)
theorem d_X11_monomial_0 : decode prog_13_method_79_code 0 = .ok (.iload_n 3, 1) := by decide +kernel
theorem d_X11_monomial_1 : decode prog_13_method_79_code 1 = .ok (.i2l, 1) := by decide +kernel
theorem d_X11_monomial_2 : decode prog_13_method_79_code 2 = .ok (.lconst 0, 1) := by decide +kernel
theorem d_X11_monomial_3 : decode prog_13_method_79_code 3 = .ok (.ldc2_w 422, 3) := by decide +kernel
theorem d_X11_monomial_6 : decode prog_13_method_79_code 6 = .ok (.invokestatic 193, 3) := by decide +kernel
theorem d_X11_monomial_9 : decode prog_13_method_79_code 9 = .ok (.ifCond .ne 5, 3) := by decide +kernel
theorem d_X11_monomial_12 : decode prog_13_method_79_code 12 = .ok (.iconst (-1), 1) := by decide +kernel
theorem d_X11_monomial_13 : decode prog_13_method_79_code 13 = .ok (.ireturn, 1) := by decide +kernel
theorem d_X11_monomial_14 : decode prog_13_method_79_code 14 = .ok (.aload_n 0, 1) := by decide +kernel
theorem d_X11_monomial_15 : decode prog_13_method_79_code 15 = .ok (.iload_n 1, 1) := by decide +kernel
theorem d_X11_monomial_16 : decode prog_13_method_79_code 16 = .ok (.iload_n 2, 1) := by decide +kernel
theorem d_X11_monomial_17 : decode prog_13_method_79_code 17 = .ok (.invokevirtual 429, 3) := by decide +kernel
theorem d_X11_monomial_20 : decode prog_13_method_79_code 20 = .ok (.ifCond .eq 24, 3) := by decide +kernel
theorem d_X11_monomial_23 : decode prog_13_method_79_code 23 = .ok (.aload_n 0, 1) := by decide +kernel
theorem d_X11_monomial_24 : decode prog_13_method_79_code 24 = .ok (.getfield 101, 3) := by decide +kernel
theorem d_X11_monomial_27 : decode prog_13_method_79_code 27 = .ok (.bipush 7, 2) := by decide +kernel
theorem d_X11_monomial_29 : decode prog_13_method_79_code 29 = .ok (.aload_n 0, 1) := by decide +kernel
theorem d_X11_monomial_30 : decode prog_13_method_79_code 30 = .ok (.getfield 56, 3) := by decide +kernel
theorem d_X11_monomial_33 : decode prog_13_method_79_code 33 = .ok (.iload_n 1, 1) := by decide +kernel
theorem d_X11_monomial_34 : decode prog_13_method_79_code 34 = .ok (.iaload, 1) := by decide +kernel
theorem d_X11_monomial_35 : decode prog_13_method_79_code 35 = .ok (.iload_n 2, 1) := by decide +kernel
theorem d_X11_monomial_36 : decode prog_13_method_79_code 36 = .ok (.iadd, 1) := by decide +kernel
theorem d_X11_monomial_37 : decode prog_13_method_79_code 37 = .ok (.imul, 1) := by decide +kernel
theorem d_X11_monomial_38 : decode prog_13_method_79_code 38 = .ok (.iload_n 3, 1) := by decide +kernel
theorem d_X11_monomial_39 : decode prog_13_method_79_code 39 = .ok (.iadd, 1) := by decide +kernel
theorem d_X11_monomial_40 : decode prog_13_method_79_code 40 = .ok (.iaload, 1) := by decide +kernel
theorem d_X11_monomial_41 : decode prog_13_method_79_code 41 = .ok (.goto 5, 3) := by decide +kernel
theorem d_X11_monomial_44 : decode prog_13_method_79_code 44 = .ok (.bipush (-2), 2) := by decide +kernel
theorem d_X11_monomial_46 : decode prog_13_method_79_code 46 = .ok (.ireturn, 1) := by decide +kernel
def f_X11_monomial (a0 : Int) (a1 : Int) (a2 : Int) (M0 : tp_M) : Option (Int) :=
  (f_X11_in a2 0 6 M0).bind fun r1 =>
  if ¬ r1 = 0 then
    (f_X11_isSide a0 a1 M0).bind fun r4 =>
    if r4 = 0 then
      some (-2)
    else
      if 0 ≤ a0 ∧ a0 < 40 then
        if 0 ≤ (tp_w ((tp_w (7 * (tp_w ((M0 499 a0) + a1)))) + a2)) ∧ (tp_w ((tp_w (7 * (tp_w ((M0 499 a0) + a1)))) + a2)) < 448 then
          some (M0 514 (tp_w ((tp_w (7 * (tp_w ((M0 499 a0) + a1)))) + a2))) else none else none
  else
    some (-1)
set_option maxHeartbeats 4000000 in
set_option maxRecDepth 100000 in
theorem T_X11_monomial (G : tp_G) (a0 : Int) (a1 : Int) (a2 : Int) (M0 : tp_M) : tp_J i_X11_monomial (tp_rm 3) G 0 0 (o_X11_monomial M0) tp_NC (tp_st M0) 0 0 [some (.inr (.inr 483)), some (.inl a0), some (.inl a1), some (.inl a2)] 0 [] (f_X11_monomial a0 a1 a2 M0) := by
  unfold f_X11_monomial
  refine j_iload_n rfl d_X11_monomial_0 rfl ?_
  refine j_i2l d_X11_monomial_1 ?_
  refine j_lconst (x := 0) ⟨by decide, by decide⟩ (by decide +kernel) d_X11_monomial_2 ?_
  refine j_ldc2 (x := 6) ⟨by decide, by decide⟩ (show Cond.constantLong _ _ _ ∈ lw_tbl from wd_1516) d_X11_monomial_3 ?_
  refine j_bind (fun r1 h2 => ?_)
  refine j_callS (y := y_X11_in) (I' := i_X11_in) (avs := [.inr (.inl a2), .inr (.inl 0), .inr (.inl 6)]) (st := []) (c_X11_in G a2 0 6 M0 r1 h2) cs_Model_193 wd_1239 wd_1240 rfl rfl (Nat.le_of_ble_eq_true rfl) ⟨rfl, rfl⟩ ⟨by decide, by decide⟩ ⟨by decide, by decide⟩ d_X11_monomial_6 ?_
  refine j_if_ne (tgt := 14) d_X11_monomial_9 (by decide) (fun h3 => ?_) (fun h3 => ?_)
  · refine j_aload_n rfl d_X11_monomial_14 rfl ?_
    refine j_iload_n rfl d_X11_monomial_15 rfl ?_
    refine j_iload_n rfl d_X11_monomial_16 rfl ?_
    refine j_bind (fun r4 h5 => ?_)
    refine j_callV (y := y_X11_isSide) (I' := i_X11_isSide) (avs := [.inl a0, .inl a1]) (c := 483) (st := []) (c_X11_isSide G a0 a1 M0 r4 h5) cs_Model_429 wd_1534 wd_1536 ws_88 tg_483 rfl rfl rfl (Nat.le_of_ble_eq_true rfl) ⟨rfl, rfl⟩ ⟨by decide, by decide⟩ ⟨by decide, by decide⟩ d_X11_monomial_17 ?_
    refine j_if_eq (tgt := 44) d_X11_monomial_20 (by decide) (fun h6 => ?_) (fun h6 => ?_)
    · refine j_bipush ⟨by decide, by decide⟩ (by decide +kernel) d_X11_monomial_44 ?_
      exact j_iret d_X11_monomial_46 rfl rfl ⟨rfl, rfl⟩
    · refine j_aload_n rfl d_X11_monomial_23 rfl ?_
      refine j_getr fl_Model_101 tg_483 rv_483_42 d_X11_monomial_24 ?_
      refine j_bipush ⟨by decide, by decide⟩ (by decide +kernel) d_X11_monomial_27 ?_
      refine j_aload_n rfl d_X11_monomial_29 rfl ?_
      refine j_getr fl_Model_56 tg_483 rv_483_27 d_X11_monomial_30 ?_
      refine j_iload_n rfl d_X11_monomial_33 rfl ?_
      refine j_iald tg_499 al_499 d_X11_monomial_34 ?_
      refine j_iload_n rfl d_X11_monomial_35 rfl ?_
      refine j_iadd d_X11_monomial_36 ?_
      refine j_imul d_X11_monomial_37 ?_
      refine j_iload_n rfl d_X11_monomial_38 rfl ?_
      refine j_iadd d_X11_monomial_39 ?_
      refine j_iald tg_514 al_514 d_X11_monomial_40 ?_
      refine j_goto (tgt := 46) d_X11_monomial_41 (by decide) ?_
      exact j_iret d_X11_monomial_46 rfl rfl ⟨rfl, rfl⟩
  · refine j_iconst ⟨by decide, by decide⟩ d_X11_monomial_12 ?_
    exact j_iret d_X11_monomial_13 rfl rfl ⟨rfl, rfl⟩
set_option maxHeartbeats 4000000 in
set_option maxRecDepth 100000 in
theorem c_X11_monomial (G : tp_G) (a0 : Int) (a1 : Int) (a2 : Int) (M0 : tp_M) (r : Int) (h : f_X11_monomial a0 a1 a2 M0 = some r) (l : Launch) : Met l y_X11_monomial (tp_ws y_X11_monomial i_X11_monomial) (tp_rm 3) (tp_Pc G [.inr (.inr 483), .inl a0, .inl a1, .inl a2] tp_NC (tp_st M0)) (tp_Q G ((o_X11_monomial M0) r)) 0 0 (tp_A G) :=
  tp_met (I := i_X11_monomial) (y := y_X11_monomial) (by decide +kernel) (Eq.refl "TypesAtPrimeModel") (Eq.refl "monomial") (lv := [some (.inr (.inr 483)), some (.inl a0), some (.inl a1), some (.inl a2)]) rfl (Nat.le_of_ble_eq_true rfl) (T_X11_monomial G a0 a1 a2 M0) h l
theorem wd_1550 : (.constantLong "TypesAtPrimeModel" 433 4 : Cond) ∈ lw_tbl := List.mem_append_right _ (List.mem_of_getElem? (i := 1550) (by decide +kernel))
def y_X11_leaf : MethodName := ⟨"TypesAtPrimeModel", "leaf", "(II)I"⟩
abbrev i_X11_leaf : tp_I := (prog_13_method_80_code, "TypesAtPrimeModel", (some .int), 3, "leaf")
abbrev o_X11_leaf (M : tp_M) : Int → tp_O := fun r => (some (.inl r), tp_NC, tp_st M)
theorem d_X11_leaf_0 : decode prog_13_method_80_code 0 = .ok (.iload_n 2, 1) := by decide +kernel
theorem d_X11_leaf_1 : decode prog_13_method_80_code 1 = .ok (.i2l, 1) := by decide +kernel
theorem d_X11_leaf_2 : decode prog_13_method_80_code 2 = .ok (.lconst 0, 1) := by decide +kernel
theorem d_X11_leaf_3 : decode prog_13_method_80_code 3 = .ok (.ldc2_w 433, 3) := by decide +kernel
theorem d_X11_leaf_6 : decode prog_13_method_80_code 6 = .ok (.invokestatic 193, 3) := by decide +kernel
theorem d_X11_leaf_9 : decode prog_13_method_80_code 9 = .ok (.ifCond .ne 5, 3) := by decide +kernel
theorem d_X11_leaf_12 : decode prog_13_method_80_code 12 = .ok (.iconst (-1), 1) := by decide +kernel
theorem d_X11_leaf_13 : decode prog_13_method_80_code 13 = .ok (.ireturn, 1) := by decide +kernel
theorem d_X11_leaf_14 : decode prog_13_method_80_code 14 = .ok (.aload_n 0, 1) := by decide +kernel
theorem d_X11_leaf_15 : decode prog_13_method_80_code 15 = .ok (.getfield 179, 3) := by decide +kernel
theorem d_X11_leaf_18 : decode prog_13_method_80_code 18 = .ok (.ifCond .eq 19, 3) := by decide +kernel
theorem d_X11_leaf_21 : decode prog_13_method_80_code 21 = .ok (.iload_n 1, 1) := by decide +kernel
theorem d_X11_leaf_22 : decode prog_13_method_80_code 22 = .ok (.i2l, 1) := by decide +kernel
theorem d_X11_leaf_23 : decode prog_13_method_80_code 23 = .ok (.lconst 0, 1) := by decide +kernel
theorem d_X11_leaf_24 : decode prog_13_method_80_code 24 = .ok (.aload_n 0, 1) := by decide +kernel
theorem d_X11_leaf_25 : decode prog_13_method_80_code 25 = .ok (.getfield 349, 3) := by decide +kernel
theorem d_X11_leaf_28 : decode prog_13_method_80_code 28 = .ok (.iconst 1, 1) := by decide +kernel
theorem d_X11_leaf_29 : decode prog_13_method_80_code 29 = .ok (.isub, 1) := by decide +kernel
theorem d_X11_leaf_30 : decode prog_13_method_80_code 30 = .ok (.i2l, 1) := by decide +kernel
theorem d_X11_leaf_31 : decode prog_13_method_80_code 31 = .ok (.invokestatic 193, 3) := by decide +kernel
theorem d_X11_leaf_34 : decode prog_13_method_80_code 34 = .ok (.ifCond .ne 6, 3) := by decide +kernel
theorem d_X11_leaf_37 : decode prog_13_method_80_code 37 = .ok (.bipush (-2), 2) := by decide +kernel
theorem d_X11_leaf_39 : decode prog_13_method_80_code 39 = .ok (.ireturn, 1) := by decide +kernel
theorem d_X11_leaf_40 : decode prog_13_method_80_code 40 = .ok (.iload_n 2, 1) := by decide +kernel
theorem d_X11_leaf_41 : decode prog_13_method_80_code 41 = .ok (.tableswitch 59 0 3 #[31, 38, 45, 52], 31) := by decide +kernel
theorem d_X11_leaf_72 : decode prog_13_method_80_code 72 = .ok (.aload_n 0, 1) := by decide +kernel
theorem d_X11_leaf_73 : decode prog_13_method_80_code 73 = .ok (.getfield 107, 3) := by decide +kernel
theorem d_X11_leaf_76 : decode prog_13_method_80_code 76 = .ok (.iload_n 1, 1) := by decide +kernel
theorem d_X11_leaf_77 : decode prog_13_method_80_code 77 = .ok (.iaload, 1) := by decide +kernel
theorem d_X11_leaf_78 : decode prog_13_method_80_code 78 = .ok (.ireturn, 1) := by decide +kernel
theorem d_X11_leaf_79 : decode prog_13_method_80_code 79 = .ok (.aload_n 0, 1) := by decide +kernel
theorem d_X11_leaf_80 : decode prog_13_method_80_code 80 = .ok (.getfield 110, 3) := by decide +kernel
theorem d_X11_leaf_83 : decode prog_13_method_80_code 83 = .ok (.iload_n 1, 1) := by decide +kernel
theorem d_X11_leaf_84 : decode prog_13_method_80_code 84 = .ok (.iaload, 1) := by decide +kernel
theorem d_X11_leaf_85 : decode prog_13_method_80_code 85 = .ok (.ireturn, 1) := by decide +kernel
theorem d_X11_leaf_86 : decode prog_13_method_80_code 86 = .ok (.aload_n 0, 1) := by decide +kernel
theorem d_X11_leaf_87 : decode prog_13_method_80_code 87 = .ok (.getfield 113, 3) := by decide +kernel
theorem d_X11_leaf_90 : decode prog_13_method_80_code 90 = .ok (.iload_n 1, 1) := by decide +kernel
theorem d_X11_leaf_91 : decode prog_13_method_80_code 91 = .ok (.iaload, 1) := by decide +kernel
theorem d_X11_leaf_92 : decode prog_13_method_80_code 92 = .ok (.ireturn, 1) := by decide +kernel
theorem d_X11_leaf_93 : decode prog_13_method_80_code 93 = .ok (.aload_n 0, 1) := by decide +kernel
theorem d_X11_leaf_94 : decode prog_13_method_80_code 94 = .ok (.getfield 116, 3) := by decide +kernel
theorem d_X11_leaf_97 : decode prog_13_method_80_code 97 = .ok (.iload_n 1, 1) := by decide +kernel
theorem d_X11_leaf_98 : decode prog_13_method_80_code 98 = .ok (.iaload, 1) := by decide +kernel
theorem d_X11_leaf_99 : decode prog_13_method_80_code 99 = .ok (.ireturn, 1) := by decide +kernel
theorem d_X11_leaf_100 : decode prog_13_method_80_code 100 = .ok (.aload_n 0, 1) := by decide +kernel
theorem d_X11_leaf_101 : decode prog_13_method_80_code 101 = .ok (.getfield 119, 3) := by decide +kernel
theorem d_X11_leaf_104 : decode prog_13_method_80_code 104 = .ok (.iload_n 1, 1) := by decide +kernel
theorem d_X11_leaf_105 : decode prog_13_method_80_code 105 = .ok (.iaload, 1) := by decide +kernel
theorem d_X11_leaf_106 : decode prog_13_method_80_code 106 = .ok (.ireturn, 1) := by decide +kernel
def f_X11_leaf (a0 : Int) (a1 : Int) (M0 : tp_M) : Option (Int) :=
  (f_X11_in a1 0 4 M0).bind fun r1 =>
  if ¬ r1 = 0 then
    if (M0 483 18) = 0 then
      some (-2)
    else
      (f_X11_in a0 0 (tp_w ((M0 483 23) - 1)) M0).bind fun r5 =>
      if ¬ r5 = 0 then
        if a1 = 0 then
          if 0 ≤ a0 ∧ a0 < 20 then
            some (M0 516 a0) else none
        else if a1 = 1 then
          if 0 ≤ a0 ∧ a0 < 20 then
            some (M0 517 a0) else none
        else if a1 = 2 then
          if 0 ≤ a0 ∧ a0 < 20 then
            some (M0 518 a0) else none
        else if a1 = 3 then
          if 0 ≤ a0 ∧ a0 < 20 then
            some (M0 519 a0) else none
        else 
          if 0 ≤ a0 ∧ a0 < 20 then
            some (M0 520 a0) else none
      else
        some (-2)
  else
    some (-1)
set_option maxHeartbeats 4000000 in
set_option maxRecDepth 100000 in
theorem T_X11_leaf (G : tp_G) (a0 : Int) (a1 : Int) (M0 : tp_M) : tp_J i_X11_leaf (tp_rm 1) G 0 0 (o_X11_leaf M0) tp_NC (tp_st M0) 0 0 [some (.inr (.inr 483)), some (.inl a0), some (.inl a1)] 0 [] (f_X11_leaf a0 a1 M0) := by
  unfold f_X11_leaf
  refine j_iload_n rfl d_X11_leaf_0 rfl ?_
  refine j_i2l d_X11_leaf_1 ?_
  refine j_lconst (x := 0) ⟨by decide, by decide⟩ (by decide +kernel) d_X11_leaf_2 ?_
  refine j_ldc2 (x := 4) ⟨by decide, by decide⟩ (show Cond.constantLong _ _ _ ∈ lw_tbl from wd_1550) d_X11_leaf_3 ?_
  refine j_bind (fun r1 h2 => ?_)
  refine j_callS (y := y_X11_in) (I' := i_X11_in) (avs := [.inr (.inl a1), .inr (.inl 0), .inr (.inl 4)]) (st := []) (c_X11_in G a1 0 4 M0 r1 h2) cs_Model_193 wd_1239 wd_1240 rfl rfl (Nat.le_of_ble_eq_true rfl) ⟨rfl, rfl⟩ ⟨by decide, by decide⟩ ⟨by decide, by decide⟩ d_X11_leaf_6 ?_
  refine j_if_ne (tgt := 14) d_X11_leaf_9 (by decide) (fun h3 => ?_) (fun h3 => ?_)
  · refine j_aload_n rfl d_X11_leaf_14 rfl ?_
    refine j_geti fl_Model_179 tg_483 d_X11_leaf_15 ?_
    refine j_if_eq (tgt := 37) d_X11_leaf_18 (by decide) (fun h4 => ?_) (fun h4 => ?_)
    · refine j_bipush ⟨by decide, by decide⟩ (by decide +kernel) d_X11_leaf_37 ?_
      exact j_iret d_X11_leaf_39 rfl rfl ⟨rfl, rfl⟩
    · refine j_iload_n rfl d_X11_leaf_21 rfl ?_
      refine j_i2l d_X11_leaf_22 ?_
      refine j_lconst (x := 0) ⟨by decide, by decide⟩ (by decide +kernel) d_X11_leaf_23 ?_
      refine j_aload_n rfl d_X11_leaf_24 rfl ?_
      refine j_geti fl_Model_349 tg_483 d_X11_leaf_25 ?_
      refine j_iconst ⟨by decide, by decide⟩ d_X11_leaf_28 ?_
      refine j_isub d_X11_leaf_29 ?_
      refine j_i2l d_X11_leaf_30 ?_
      refine j_bind (fun r5 h6 => ?_)
      refine j_callS (y := y_X11_in) (I' := i_X11_in) (avs := [.inr (.inl a0), .inr (.inl 0), .inr (.inl (tp_w ((M0 483 23) - 1)))]) (st := []) (c_X11_in G a0 0 (tp_w ((M0 483 23) - 1)) M0 r5 h6) cs_Model_193 wd_1239 wd_1240 rfl rfl (Nat.le_of_ble_eq_true rfl) ⟨rfl, rfl⟩ ⟨by decide, by decide⟩ ⟨by decide, by decide⟩ d_X11_leaf_31 ?_
      refine j_if_ne (tgt := 40) d_X11_leaf_34 (by decide) (fun h7 => ?_) (fun h7 => ?_)
      · refine j_iload_n rfl d_X11_leaf_40 rfl ?_
        refine tp_ite (fun h8 => ?_) (fun h8 => ?_)
        · refine j_tsin (tgt := 72) d_X11_leaf_41 (by omega) (by omega) (off := 31) (by rw [h8]; decide +kernel) (by decide) ?_
          refine j_aload_n rfl d_X11_leaf_72 rfl ?_
          refine j_getr fl_Model_107 tg_483 rv_483_44 d_X11_leaf_73 ?_
          refine j_iload_n rfl d_X11_leaf_76 rfl ?_
          refine j_iald tg_516 al_516 d_X11_leaf_77 ?_
          exact j_iret d_X11_leaf_78 rfl rfl ⟨rfl, rfl⟩
        refine tp_ite (fun h9 => ?_) (fun h9 => ?_)
        · refine j_tsin (tgt := 79) d_X11_leaf_41 (by omega) (by omega) (off := 38) (by rw [h9]; decide +kernel) (by decide) ?_
          refine j_aload_n rfl d_X11_leaf_79 rfl ?_
          refine j_getr fl_Model_110 tg_483 rv_483_45 d_X11_leaf_80 ?_
          refine j_iload_n rfl d_X11_leaf_83 rfl ?_
          refine j_iald tg_517 al_517 d_X11_leaf_84 ?_
          exact j_iret d_X11_leaf_85 rfl rfl ⟨rfl, rfl⟩
        refine tp_ite (fun h10 => ?_) (fun h10 => ?_)
        · refine j_tsin (tgt := 86) d_X11_leaf_41 (by omega) (by omega) (off := 45) (by rw [h10]; decide +kernel) (by decide) ?_
          refine j_aload_n rfl d_X11_leaf_86 rfl ?_
          refine j_getr fl_Model_113 tg_483 rv_483_46 d_X11_leaf_87 ?_
          refine j_iload_n rfl d_X11_leaf_90 rfl ?_
          refine j_iald tg_518 al_518 d_X11_leaf_91 ?_
          exact j_iret d_X11_leaf_92 rfl rfl ⟨rfl, rfl⟩
        refine tp_ite (fun h11 => ?_) (fun h11 => ?_)
        · refine j_tsin (tgt := 93) d_X11_leaf_41 (by omega) (by omega) (off := 52) (by rw [h11]; decide +kernel) (by decide) ?_
          refine j_aload_n rfl d_X11_leaf_93 rfl ?_
          refine j_getr fl_Model_116 tg_483 rv_483_47 d_X11_leaf_94 ?_
          refine j_iload_n rfl d_X11_leaf_97 rfl ?_
          refine j_iald tg_519 al_519 d_X11_leaf_98 ?_
          exact j_iret d_X11_leaf_99 rfl rfl ⟨rfl, rfl⟩
        refine j_tsout (tgt := 100) d_X11_leaf_41 (by omega) (by decide) ?_
        refine j_aload_n rfl d_X11_leaf_100 rfl ?_
        refine j_getr fl_Model_119 tg_483 rv_483_48 d_X11_leaf_101 ?_
        refine j_iload_n rfl d_X11_leaf_104 rfl ?_
        refine j_iald tg_520 al_520 d_X11_leaf_105 ?_
        exact j_iret d_X11_leaf_106 rfl rfl ⟨rfl, rfl⟩
      · refine j_bipush ⟨by decide, by decide⟩ (by decide +kernel) d_X11_leaf_37 ?_
        exact j_iret d_X11_leaf_39 rfl rfl ⟨rfl, rfl⟩
  · refine j_iconst ⟨by decide, by decide⟩ d_X11_leaf_12 ?_
    exact j_iret d_X11_leaf_13 rfl rfl ⟨rfl, rfl⟩
set_option maxHeartbeats 4000000 in
set_option maxRecDepth 100000 in
theorem c_X11_leaf (G : tp_G) (a0 : Int) (a1 : Int) (M0 : tp_M) (r : Int) (h : f_X11_leaf a0 a1 M0 = some r) (l : Launch) : Met l y_X11_leaf (tp_ws y_X11_leaf i_X11_leaf) (tp_rm 1) (tp_Pc G [.inr (.inr 483), .inl a0, .inl a1] tp_NC (tp_st M0)) (tp_Q G ((o_X11_leaf M0) r)) 0 0 (tp_A G) :=
  tp_met (I := i_X11_leaf) (y := y_X11_leaf) (by decide +kernel) (Eq.refl "TypesAtPrimeModel") (Eq.refl "leaf") (lv := [some (.inr (.inr 483)), some (.inl a0), some (.inl a1)]) rfl (Nat.le_of_ble_eq_true rfl) (T_X11_leaf G a0 a1 M0) h l
def y_X11_spelling : MethodName := ⟨"TypesAtPrimeModel", "spelling", "(I)I"⟩
abbrev i_X11_spelling : tp_I := (prog_13_method_81_code, "TypesAtPrimeModel", (some .int), 2, "spelling")
abbrev o_X11_spelling (M : tp_M) : Int → tp_O := fun r => (some (.inl r), tp_NC, tp_st M)
theorem d_X11_spelling_0 : decode prog_13_method_81_code 0 = .ok (.aload_n 0, 1) := by decide +kernel
theorem d_X11_spelling_1 : decode prog_13_method_81_code 1 = .ok (.getfield 179, 3) := by decide +kernel
theorem d_X11_spelling_4 : decode prog_13_method_81_code 4 = .ok (.ifCond .eq 28, 3) := by decide +kernel
theorem d_X11_spelling_7 : decode prog_13_method_81_code 7 = .ok (.iload_n 1, 1) := by decide +kernel
theorem d_X11_spelling_8 : decode prog_13_method_81_code 8 = .ok (.i2l, 1) := by decide +kernel
theorem d_X11_spelling_9 : decode prog_13_method_81_code 9 = .ok (.lconst 0, 1) := by decide +kernel
theorem d_X11_spelling_10 : decode prog_13_method_81_code 10 = .ok (.aload_n 0, 1) := by decide +kernel
theorem d_X11_spelling_11 : decode prog_13_method_81_code 11 = .ok (.getfield 399, 3) := by decide +kernel
theorem d_X11_spelling_14 : decode prog_13_method_81_code 14 = .ok (.iconst 1, 1) := by decide +kernel
theorem d_X11_spelling_15 : decode prog_13_method_81_code 15 = .ok (.isub, 1) := by decide +kernel
theorem d_X11_spelling_16 : decode prog_13_method_81_code 16 = .ok (.i2l, 1) := by decide +kernel
theorem d_X11_spelling_17 : decode prog_13_method_81_code 17 = .ok (.invokestatic 193, 3) := by decide +kernel
theorem d_X11_spelling_20 : decode prog_13_method_81_code 20 = .ok (.ifCond .eq 12, 3) := by decide +kernel
theorem d_X11_spelling_23 : decode prog_13_method_81_code 23 = .ok (.aload_n 0, 1) := by decide +kernel
theorem d_X11_spelling_24 : decode prog_13_method_81_code 24 = .ok (.getfield 152, 3) := by decide +kernel
theorem d_X11_spelling_27 : decode prog_13_method_81_code 27 = .ok (.iload_n 1, 1) := by decide +kernel
theorem d_X11_spelling_28 : decode prog_13_method_81_code 28 = .ok (.iaload, 1) := by decide +kernel
theorem d_X11_spelling_29 : decode prog_13_method_81_code 29 = .ok (.goto 5, 3) := by decide +kernel
theorem d_X11_spelling_32 : decode prog_13_method_81_code 32 = .ok (.bipush (-2), 2) := by decide +kernel
theorem d_X11_spelling_34 : decode prog_13_method_81_code 34 = .ok (.ireturn, 1) := by decide +kernel
def f_X11_spelling (a0 : Int) (M0 : tp_M) : Option (Int) :=
  if (M0 483 18) = 0 then
    some (-2)
  else
    (f_X11_in a0 0 (tp_w ((M0 483 63) - 1)) M0).bind fun r2 =>
    if r2 = 0 then
      some (-2)
    else
      if 0 ≤ a0 ∧ a0 < 160 then
        some (M0 531 a0) else none
set_option maxHeartbeats 4000000 in
set_option maxRecDepth 100000 in
theorem T_X11_spelling (G : tp_G) (a0 : Int) (M0 : tp_M) : tp_J i_X11_spelling (tp_rm 1) G 0 0 (o_X11_spelling M0) tp_NC (tp_st M0) 0 0 [some (.inr (.inr 483)), some (.inl a0)] 0 [] (f_X11_spelling a0 M0) := by
  unfold f_X11_spelling
  refine j_aload_n rfl d_X11_spelling_0 rfl ?_
  refine j_geti fl_Model_179 tg_483 d_X11_spelling_1 ?_
  refine j_if_eq (tgt := 32) d_X11_spelling_4 (by decide) (fun h1 => ?_) (fun h1 => ?_)
  · refine j_bipush ⟨by decide, by decide⟩ (by decide +kernel) d_X11_spelling_32 ?_
    exact j_iret d_X11_spelling_34 rfl rfl ⟨rfl, rfl⟩
  · refine j_iload_n rfl d_X11_spelling_7 rfl ?_
    refine j_i2l d_X11_spelling_8 ?_
    refine j_lconst (x := 0) ⟨by decide, by decide⟩ (by decide +kernel) d_X11_spelling_9 ?_
    refine j_aload_n rfl d_X11_spelling_10 rfl ?_
    refine j_geti fl_Model_399 tg_483 d_X11_spelling_11 ?_
    refine j_iconst ⟨by decide, by decide⟩ d_X11_spelling_14 ?_
    refine j_isub d_X11_spelling_15 ?_
    refine j_i2l d_X11_spelling_16 ?_
    refine j_bind (fun r2 h3 => ?_)
    refine j_callS (y := y_X11_in) (I' := i_X11_in) (avs := [.inr (.inl a0), .inr (.inl 0), .inr (.inl (tp_w ((M0 483 63) - 1)))]) (st := []) (c_X11_in G a0 0 (tp_w ((M0 483 63) - 1)) M0 r2 h3) cs_Model_193 wd_1239 wd_1240 rfl rfl (Nat.le_of_ble_eq_true rfl) ⟨rfl, rfl⟩ ⟨by decide, by decide⟩ ⟨by decide, by decide⟩ d_X11_spelling_17 ?_
    refine j_if_eq (tgt := 32) d_X11_spelling_20 (by decide) (fun h4 => ?_) (fun h4 => ?_)
    · refine j_bipush ⟨by decide, by decide⟩ (by decide +kernel) d_X11_spelling_32 ?_
      exact j_iret d_X11_spelling_34 rfl rfl ⟨rfl, rfl⟩
    · refine j_aload_n rfl d_X11_spelling_23 rfl ?_
      refine j_getr fl_Model_152 tg_483 rv_483_62 d_X11_spelling_24 ?_
      refine j_iload_n rfl d_X11_spelling_27 rfl ?_
      refine j_iald tg_531 al_531 d_X11_spelling_28 ?_
      refine j_goto (tgt := 34) d_X11_spelling_29 (by decide) ?_
      exact j_iret d_X11_spelling_34 rfl rfl ⟨rfl, rfl⟩
set_option maxHeartbeats 4000000 in
set_option maxRecDepth 100000 in
theorem c_X11_spelling (G : tp_G) (a0 : Int) (M0 : tp_M) (r : Int) (h : f_X11_spelling a0 M0 = some r) (l : Launch) : Met l y_X11_spelling (tp_ws y_X11_spelling i_X11_spelling) (tp_rm 1) (tp_Pc G [.inr (.inr 483), .inl a0] tp_NC (tp_st M0)) (tp_Q G ((o_X11_spelling M0) r)) 0 0 (tp_A G) :=
  tp_met (I := i_X11_spelling) (y := y_X11_spelling) (by decide +kernel) (Eq.refl "TypesAtPrimeModel") (Eq.refl "spelling") (lv := [some (.inr (.inr 483)), some (.inl a0)]) rfl (Nat.le_of_ble_eq_true rfl) (T_X11_spelling G a0 M0) h l
theorem wd_1567 : (.constantLong "TypesAtPrimeModel" 443 6132907 : Cond) ∈ lw_tbl := List.mem_append_right _ (List.mem_of_getElem? (i := 1567) (by decide +kernel))
theorem wd_1568 : (.constantLong "TypesAtPrimeModel" 445 174879964 : Cond) ∈ lw_tbl := List.mem_append_right _ (List.mem_of_getElem? (i := 1568) (by decide +kernel))
theorem wd_1569 : (.constantLong "TypesAtPrimeModel" 447 5061606 : Cond) ∈ lw_tbl := List.mem_append_right _ (List.mem_of_getElem? (i := 1569) (by decide +kernel))
theorem wd_1570 : (.constantLong "TypesAtPrimeModel" 449 307058 : Cond) ∈ lw_tbl := List.mem_append_right _ (List.mem_of_getElem? (i := 1570) (by decide +kernel))
theorem wd_1571 : (.constantLong "TypesAtPrimeModel" 451 459598 : Cond) ∈ lw_tbl := List.mem_append_right _ (List.mem_of_getElem? (i := 1571) (by decide +kernel))
theorem wd_1572 : (.constantLong "TypesAtPrimeModel" 453 175281103 : Cond) ∈ lw_tbl := List.mem_append_right _ (List.mem_of_getElem? (i := 1572) (by decide +kernel))
theorem wd_1573 : (.constantLong "TypesAtPrimeModel" 455 381245 : Cond) ∈ lw_tbl := List.mem_append_right _ (List.mem_of_getElem? (i := 1573) (by decide +kernel))
theorem wd_1574 : (.constantLong "TypesAtPrimeModel" 457 60203876 : Cond) ∈ lw_tbl := List.mem_append_right _ (List.mem_of_getElem? (i := 1574) (by decide +kernel))
theorem wd_1575 : (.constantLong "TypesAtPrimeModel" 459 8864267 : Cond) ∈ lw_tbl := List.mem_append_right _ (List.mem_of_getElem? (i := 1575) (by decide +kernel))
theorem wd_1563 : (.constantLong "TypesAtPrimeModel" 435 97 : Cond) ∈ lw_tbl := List.mem_append_right _ (List.mem_of_getElem? (i := 1563) (by decide +kernel))
theorem wd_1564 : (.constantLong "TypesAtPrimeModel" 437 122 : Cond) ∈ lw_tbl := List.mem_append_right _ (List.mem_of_getElem? (i := 1564) (by decide +kernel))
theorem wd_1565 : (.constantLong "TypesAtPrimeModel" 439 27 : Cond) ∈ lw_tbl := List.mem_append_right _ (List.mem_of_getElem? (i := 1565) (by decide +kernel))
theorem wd_1566 : (.constantLong "TypesAtPrimeModel" 441 96 : Cond) ∈ lw_tbl := List.mem_append_right _ (List.mem_of_getElem? (i := 1566) (by decide +kernel))
def y_X11_wordHere : MethodName := ⟨"TypesAtPrimeModel", "wordHere", "()I"⟩
abbrev i_X11_wordHere : tp_I := (prog_13_method_82_code, "TypesAtPrimeModel", (some .int), 4, "wordHere")
abbrev o_X11_wordHere (M : tp_M) : Int → tp_O := fun r => (some (.inl r), tp_NC, tp_st M)
theorem d_X11_wordHere_0 : decode prog_13_method_82_code 0 = .ok (.lconst 0, 1) := by decide +kernel
theorem d_X11_wordHere_1 : decode prog_13_method_82_code 1 = .ok (.lstore_n 1, 1) := by decide +kernel
theorem d_X11_wordHere_2 : decode prog_13_method_82_code 2 = .ok (.iconst 0, 1) := by decide +kernel
theorem d_X11_wordHere_3 : decode prog_13_method_82_code 3 = .ok (.istore_n 3, 1) := by decide +kernel
theorem d_X11_wordHere_4 : decode prog_13_method_82_code 4 = .ok (.iload_n 3, 1) := by decide +kernel
theorem d_X11_wordHere_5 : decode prog_13_method_82_code 5 = .ok (.aload_n 0, 1) := by decide +kernel
theorem d_X11_wordHere_6 : decode prog_13_method_82_code 6 = .ok (.getfield 197, 3) := by decide +kernel
theorem d_X11_wordHere_9 : decode prog_13_method_82_code 9 = .ok (.if_icmp .ge 64, 3) := by decide +kernel
theorem d_X11_wordHere_12 : decode prog_13_method_82_code 12 = .ok (.iload_n 3, 1) := by decide +kernel
theorem d_X11_wordHere_13 : decode prog_13_method_82_code 13 = .ok (.bipush 8, 2) := by decide +kernel
theorem d_X11_wordHere_15 : decode prog_13_method_82_code 15 = .ok (.if_icmp .ge 48, 3) := by decide +kernel
theorem d_X11_wordHere_18 : decode prog_13_method_82_code 18 = .ok (.aload_n 0, 1) := by decide +kernel
theorem d_X11_wordHere_19 : decode prog_13_method_82_code 19 = .ok (.getfield 13, 3) := by decide +kernel
theorem d_X11_wordHere_22 : decode prog_13_method_82_code 22 = .ok (.iload_n 3, 1) := by decide +kernel
theorem d_X11_wordHere_23 : decode prog_13_method_82_code 23 = .ok (.iaload, 1) := by decide +kernel
theorem d_X11_wordHere_24 : decode prog_13_method_82_code 24 = .ok (.i2l, 1) := by decide +kernel
theorem d_X11_wordHere_25 : decode prog_13_method_82_code 25 = .ok (.ldc2_w 435, 3) := by decide +kernel
theorem d_X11_wordHere_28 : decode prog_13_method_82_code 28 = .ok (.ldc2_w 437, 3) := by decide +kernel
theorem d_X11_wordHere_31 : decode prog_13_method_82_code 31 = .ok (.invokestatic 193, 3) := by decide +kernel
theorem d_X11_wordHere_34 : decode prog_13_method_82_code 34 = .ok (.ifCond .eq 29, 3) := by decide +kernel
theorem d_X11_wordHere_37 : decode prog_13_method_82_code 37 = .ok (.lload_n 1, 1) := by decide +kernel
theorem d_X11_wordHere_38 : decode prog_13_method_82_code 38 = .ok (.lconst 0, 1) := by decide +kernel
theorem d_X11_wordHere_39 : decode prog_13_method_82_code 39 = .ok (.lcmp, 1) := by decide +kernel
theorem d_X11_wordHere_40 : decode prog_13_method_82_code 40 = .ok (.ifCond .lt 23, 3) := by decide +kernel
theorem d_X11_wordHere_43 : decode prog_13_method_82_code 43 = .ok (.ldc2_w 439, 3) := by decide +kernel
theorem d_X11_wordHere_46 : decode prog_13_method_82_code 46 = .ok (.lload_n 1, 1) := by decide +kernel
theorem d_X11_wordHere_47 : decode prog_13_method_82_code 47 = .ok (.lmul, 1) := by decide +kernel
theorem d_X11_wordHere_48 : decode prog_13_method_82_code 48 = .ok (.aload_n 0, 1) := by decide +kernel
theorem d_X11_wordHere_49 : decode prog_13_method_82_code 49 = .ok (.getfield 13, 3) := by decide +kernel
theorem d_X11_wordHere_52 : decode prog_13_method_82_code 52 = .ok (.iload_n 3, 1) := by decide +kernel
theorem d_X11_wordHere_53 : decode prog_13_method_82_code 53 = .ok (.iaload, 1) := by decide +kernel
theorem d_X11_wordHere_54 : decode prog_13_method_82_code 54 = .ok (.i2l, 1) := by decide +kernel
theorem d_X11_wordHere_55 : decode prog_13_method_82_code 55 = .ok (.ladd, 1) := by decide +kernel
theorem d_X11_wordHere_56 : decode prog_13_method_82_code 56 = .ok (.ldc2_w 441, 3) := by decide +kernel
theorem d_X11_wordHere_59 : decode prog_13_method_82_code 59 = .ok (.lsub, 1) := by decide +kernel
theorem d_X11_wordHere_60 : decode prog_13_method_82_code 60 = .ok (.goto 6, 3) := by decide +kernel
theorem d_X11_wordHere_63 : decode prog_13_method_82_code 63 = .ok (.ldc2_w 251, 3) := by decide +kernel
theorem d_X11_wordHere_66 : decode prog_13_method_82_code 66 = .ok (.lstore_n 1, 1) := by decide +kernel
theorem d_X11_wordHere_67 : decode prog_13_method_82_code 67 = .ok (.iinc 3 1, 3) := by decide +kernel
theorem d_X11_wordHere_70 : decode prog_13_method_82_code 70 = .ok (.goto (-66), 3) := by decide +kernel
theorem d_X11_wordHere_73 : decode prog_13_method_82_code 73 = .ok (.lload_n 1, 1) := by decide +kernel
theorem d_X11_wordHere_74 : decode prog_13_method_82_code 74 = .ok (.ldc2_w 443, 3) := by decide +kernel
theorem d_X11_wordHere_77 : decode prog_13_method_82_code 77 = .ok (.lcmp, 1) := by decide +kernel
theorem d_X11_wordHere_78 : decode prog_13_method_82_code 78 = .ok (.ifCond .ne 7, 3) := by decide +kernel
theorem d_X11_wordHere_81 : decode prog_13_method_82_code 81 = .ok (.iconst 0, 1) := by decide +kernel
theorem d_X11_wordHere_82 : decode prog_13_method_82_code 82 = .ok (.goto 103, 3) := by decide +kernel
theorem d_X11_wordHere_85 : decode prog_13_method_82_code 85 = .ok (.lload_n 1, 1) := by decide +kernel
theorem d_X11_wordHere_86 : decode prog_13_method_82_code 86 = .ok (.ldc2_w 445, 3) := by decide +kernel
theorem d_X11_wordHere_89 : decode prog_13_method_82_code 89 = .ok (.lcmp, 1) := by decide +kernel
theorem d_X11_wordHere_90 : decode prog_13_method_82_code 90 = .ok (.ifCond .ne 7, 3) := by decide +kernel
theorem d_X11_wordHere_93 : decode prog_13_method_82_code 93 = .ok (.iconst 1, 1) := by decide +kernel
theorem d_X11_wordHere_94 : decode prog_13_method_82_code 94 = .ok (.goto 91, 3) := by decide +kernel
theorem d_X11_wordHere_97 : decode prog_13_method_82_code 97 = .ok (.lload_n 1, 1) := by decide +kernel
theorem d_X11_wordHere_98 : decode prog_13_method_82_code 98 = .ok (.ldc2_w 447, 3) := by decide +kernel
theorem d_X11_wordHere_101 : decode prog_13_method_82_code 101 = .ok (.lcmp, 1) := by decide +kernel
theorem d_X11_wordHere_102 : decode prog_13_method_82_code 102 = .ok (.ifCond .ne 7, 3) := by decide +kernel
theorem d_X11_wordHere_105 : decode prog_13_method_82_code 105 = .ok (.iconst 2, 1) := by decide +kernel
theorem d_X11_wordHere_106 : decode prog_13_method_82_code 106 = .ok (.goto 79, 3) := by decide +kernel
theorem d_X11_wordHere_109 : decode prog_13_method_82_code 109 = .ok (.lload_n 1, 1) := by decide +kernel
theorem d_X11_wordHere_110 : decode prog_13_method_82_code 110 = .ok (.ldc2_w 449, 3) := by decide +kernel
theorem d_X11_wordHere_113 : decode prog_13_method_82_code 113 = .ok (.lcmp, 1) := by decide +kernel
theorem d_X11_wordHere_114 : decode prog_13_method_82_code 114 = .ok (.ifCond .ne 7, 3) := by decide +kernel
theorem d_X11_wordHere_117 : decode prog_13_method_82_code 117 = .ok (.iconst 3, 1) := by decide +kernel
theorem d_X11_wordHere_118 : decode prog_13_method_82_code 118 = .ok (.goto 67, 3) := by decide +kernel
theorem d_X11_wordHere_121 : decode prog_13_method_82_code 121 = .ok (.lload_n 1, 1) := by decide +kernel
theorem d_X11_wordHere_122 : decode prog_13_method_82_code 122 = .ok (.ldc2_w 451, 3) := by decide +kernel
theorem d_X11_wordHere_125 : decode prog_13_method_82_code 125 = .ok (.lcmp, 1) := by decide +kernel
theorem d_X11_wordHere_126 : decode prog_13_method_82_code 126 = .ok (.ifCond .ne 7, 3) := by decide +kernel
theorem d_X11_wordHere_129 : decode prog_13_method_82_code 129 = .ok (.iconst 4, 1) := by decide +kernel
theorem d_X11_wordHere_130 : decode prog_13_method_82_code 130 = .ok (.goto 55, 3) := by decide +kernel
theorem d_X11_wordHere_133 : decode prog_13_method_82_code 133 = .ok (.lload_n 1, 1) := by decide +kernel
theorem d_X11_wordHere_134 : decode prog_13_method_82_code 134 = .ok (.ldc2_w 453, 3) := by decide +kernel
theorem d_X11_wordHere_137 : decode prog_13_method_82_code 137 = .ok (.lcmp, 1) := by decide +kernel
theorem d_X11_wordHere_138 : decode prog_13_method_82_code 138 = .ok (.ifCond .ne 7, 3) := by decide +kernel
theorem d_X11_wordHere_141 : decode prog_13_method_82_code 141 = .ok (.iconst 5, 1) := by decide +kernel
theorem d_X11_wordHere_142 : decode prog_13_method_82_code 142 = .ok (.goto 43, 3) := by decide +kernel
theorem d_X11_wordHere_145 : decode prog_13_method_82_code 145 = .ok (.lload_n 1, 1) := by decide +kernel
theorem d_X11_wordHere_146 : decode prog_13_method_82_code 146 = .ok (.ldc2_w 455, 3) := by decide +kernel
theorem d_X11_wordHere_149 : decode prog_13_method_82_code 149 = .ok (.lcmp, 1) := by decide +kernel
theorem d_X11_wordHere_150 : decode prog_13_method_82_code 150 = .ok (.ifCond .ne 8, 3) := by decide +kernel
theorem d_X11_wordHere_153 : decode prog_13_method_82_code 153 = .ok (.bipush 6, 2) := by decide +kernel
theorem d_X11_wordHere_155 : decode prog_13_method_82_code 155 = .ok (.goto 30, 3) := by decide +kernel
theorem d_X11_wordHere_158 : decode prog_13_method_82_code 158 = .ok (.lload_n 1, 1) := by decide +kernel
theorem d_X11_wordHere_159 : decode prog_13_method_82_code 159 = .ok (.ldc2_w 457, 3) := by decide +kernel
theorem d_X11_wordHere_162 : decode prog_13_method_82_code 162 = .ok (.lcmp, 1) := by decide +kernel
theorem d_X11_wordHere_163 : decode prog_13_method_82_code 163 = .ok (.ifCond .ne 8, 3) := by decide +kernel
theorem d_X11_wordHere_166 : decode prog_13_method_82_code 166 = .ok (.bipush 7, 2) := by decide +kernel
theorem d_X11_wordHere_168 : decode prog_13_method_82_code 168 = .ok (.goto 17, 3) := by decide +kernel
theorem d_X11_wordHere_171 : decode prog_13_method_82_code 171 = .ok (.lload_n 1, 1) := by decide +kernel
theorem d_X11_wordHere_172 : decode prog_13_method_82_code 172 = .ok (.ldc2_w 459, 3) := by decide +kernel
theorem d_X11_wordHere_175 : decode prog_13_method_82_code 175 = .ok (.lcmp, 1) := by decide +kernel
theorem d_X11_wordHere_176 : decode prog_13_method_82_code 176 = .ok (.ifCond .ne 8, 3) := by decide +kernel
theorem d_X11_wordHere_179 : decode prog_13_method_82_code 179 = .ok (.bipush 8, 2) := by decide +kernel
theorem d_X11_wordHere_181 : decode prog_13_method_82_code 181 = .ok (.goto 4, 3) := by decide +kernel
theorem d_X11_wordHere_184 : decode prog_13_method_82_code 184 = .ok (.iconst (-1), 1) := by decide +kernel
theorem d_X11_wordHere_185 : decode prog_13_method_82_code 185 = .ok (.ireturn, 1) := by decide +kernel
def f_X11_wordHere_66 (rec_4 : Int → Int → Option (Int)) (x3 : Int) (s0 : Int) (M0 : tp_M) : Option (Int) :=
  tp_lt (tp_w (x3 + 1)) fun y12 =>
  rec_4 s0 y12
set_option maxHeartbeats 4000000 in
set_option maxRecDepth 100000 in
theorem T_X11_wordHere_66 (G : tp_G) (rec_4 : Int → Int → Option (Int)) (x3 : Int) (s0 : Int) (M0 : tp_M) (hrec_4 : ∀ (x1' x3' : Int), tp_J i_X11_wordHere (tp_rm 1) G 0 0 (o_X11_wordHere M0) tp_NC (tp_st M0) 0 0 [some (.inr (.inr 483)), some (.inr (.inl (x1'))), none, some (.inl (x3'))] 4 [] (rec_4 x1' x3')) : tp_J i_X11_wordHere (tp_rm 1) G 0 0 (o_X11_wordHere M0) tp_NC (tp_st M0) 0 0 [some (.inr (.inr 483)), none, none, some (.inl x3)] 66 [.inr (.inl s0)] (f_X11_wordHere_66 rec_4 x3 s0 M0) := by
  unfold f_X11_wordHere_66
  refine j_lstore_n (lv' := [some (.inr (.inr 483)), some (.inr (.inl s0)), none, some (.inl x3)]) rfl d_X11_wordHere_66 (Nat.le_of_ble_eq_true rfl) rfl ?_
  refine j_iincN (lv' := fun y12 => [some (.inr (.inr 483)), some (.inr (.inl s0)), none, some (.inl y12)]) d_X11_wordHere_67 rfl (Nat.le_of_ble_eq_true rfl) (fun _ => rfl) (fun y12 hy12 => ?_)
  refine j_goto (tgt := 4) d_X11_wordHere_70 (by decide) ?_
  exact j_wk [true, true, false, true] rfl rfl (hrec_4 s0 y12)
def f_X11_wordHere_63 (rec_4 : Int → Int → Option (Int)) (x3 : Int) (M0 : tp_M) : Option (Int) :=
  f_X11_wordHere_66 rec_4 x3 (-1) M0
set_option maxHeartbeats 4000000 in
set_option maxRecDepth 100000 in
theorem T_X11_wordHere_63 (G : tp_G) (rec_4 : Int → Int → Option (Int)) (x3 : Int) (M0 : tp_M) (hrec_4 : ∀ (x1' x3' : Int), tp_J i_X11_wordHere (tp_rm 1) G 0 0 (o_X11_wordHere M0) tp_NC (tp_st M0) 0 0 [some (.inr (.inr 483)), some (.inr (.inl (x1'))), none, some (.inl (x3'))] 4 [] (rec_4 x1' x3')) : tp_J i_X11_wordHere (tp_rm 1) G 0 0 (o_X11_wordHere M0) tp_NC (tp_st M0) 0 0 [some (.inr (.inr 483)), none, none, some (.inl x3)] 63 [] (f_X11_wordHere_63 rec_4 x3 M0) := by
  unfold f_X11_wordHere_63
  refine j_ldc2 (x := (-1)) ⟨by decide, by decide⟩ (show Cond.constantLong _ _ _ ∈ lw_tbl from wd_1333) d_X11_wordHere_63 ?_
  exact j_wk [true, false, false, true] rfl rfl (T_X11_wordHere_66 G rec_4 x3 (-1) M0 hrec_4)
def f_X11_wordHere_4B (M0 : tp_M) (rec_4 : Int → Int → Option (Int)) (x1 : Int) (x3 : Int) : Option (Int) :=
  if (M0 483 5) ≤ x3 then
    if ¬ x1 = 6132907 then
      if ¬ x1 = 174879964 then
        if ¬ x1 = 5061606 then
          if ¬ x1 = 307058 then
            if ¬ x1 = 459598 then
              if ¬ x1 = 175281103 then
                if ¬ x1 = 381245 then
                  if ¬ x1 = 60203876 then
                    if ¬ x1 = 8864267 then
                      some (-1)
                    else
                      some 8
                  else
                    some 7
                else
                  some 6
              else
                some 5
            else
              some 4
          else
            some 3
        else
          some 2
      else
        some 1
    else
      some 0
  else
    if 8 ≤ x3 then
      f_X11_wordHere_63 rec_4 x3 M0
    else
      if 0 ≤ x3 ∧ x3 < 80 then
        (f_X11_in (M0 485 x3) 97 122 M0).bind fun r13 =>
        if r13 = 0 then
          f_X11_wordHere_63 rec_4 x3 M0
        else
          if x1 < 0 then
            f_X11_wordHere_63 rec_4 x3 M0
          else
            if 0 ≤ x3 ∧ x3 < 80 then
              f_X11_wordHere_66 rec_4 x3 (tp_wl ((tp_wl ((tp_wl (27 * x1)) + (M0 485 x3))) - 96)) M0 else none else none
set_option maxHeartbeats 4000000 in
set_option maxRecDepth 100000 in
theorem T_X11_wordHere_4B (G : tp_G) (M0 : tp_M) (rec_4 : Int → Int → Option (Int)) (hrec_4 : ∀ (x1' x3' : Int), tp_J i_X11_wordHere (tp_rm 1) G 0 0 (o_X11_wordHere M0) tp_NC (tp_st M0) 0 0 [some (.inr (.inr 483)), some (.inr (.inl (x1'))), none, some (.inl (x3'))] 4 [] (rec_4 x1' x3')) (x1 : Int) (x3 : Int) : tp_J i_X11_wordHere (tp_rm 1) G 0 0 (o_X11_wordHere M0) tp_NC (tp_st M0) 0 0 [some (.inr (.inr 483)), some (.inr (.inl x1)), none, some (.inl x3)] 4 [] (f_X11_wordHere_4B M0 rec_4 x1 x3) := by
  unfold f_X11_wordHere_4B
  refine j_iload_n rfl d_X11_wordHere_4 rfl ?_
  refine j_aload_n rfl d_X11_wordHere_5 rfl ?_
  refine j_geti fl_Model_197 tg_483 d_X11_wordHere_6 ?_
  refine j_icmp_ge (tgt := 73) d_X11_wordHere_9 (by decide) (fun h1 => ?_) (fun h1 => ?_)
  · refine j_lload_n rfl d_X11_wordHere_73 rfl ?_
    refine j_ldc2 (x := 6132907) ⟨by decide, by decide⟩ (show Cond.constantLong _ _ _ ∈ lw_tbl from wd_1567) d_X11_wordHere_74 ?_
    refine j_lcmp_ne (tgt := 85) d_X11_wordHere_77 rfl d_X11_wordHere_78 (by decide) (fun h2 => ?_) (fun h2 => ?_)
    · refine j_lload_n rfl d_X11_wordHere_85 rfl ?_
      refine j_ldc2 (x := 174879964) ⟨by decide, by decide⟩ (show Cond.constantLong _ _ _ ∈ lw_tbl from wd_1568) d_X11_wordHere_86 ?_
      refine j_lcmp_ne (tgt := 97) d_X11_wordHere_89 rfl d_X11_wordHere_90 (by decide) (fun h3 => ?_) (fun h3 => ?_)
      · refine j_lload_n rfl d_X11_wordHere_97 rfl ?_
        refine j_ldc2 (x := 5061606) ⟨by decide, by decide⟩ (show Cond.constantLong _ _ _ ∈ lw_tbl from wd_1569) d_X11_wordHere_98 ?_
        refine j_lcmp_ne (tgt := 109) d_X11_wordHere_101 rfl d_X11_wordHere_102 (by decide) (fun h4 => ?_) (fun h4 => ?_)
        · refine j_lload_n rfl d_X11_wordHere_109 rfl ?_
          refine j_ldc2 (x := 307058) ⟨by decide, by decide⟩ (show Cond.constantLong _ _ _ ∈ lw_tbl from wd_1570) d_X11_wordHere_110 ?_
          refine j_lcmp_ne (tgt := 121) d_X11_wordHere_113 rfl d_X11_wordHere_114 (by decide) (fun h5 => ?_) (fun h5 => ?_)
          · refine j_lload_n rfl d_X11_wordHere_121 rfl ?_
            refine j_ldc2 (x := 459598) ⟨by decide, by decide⟩ (show Cond.constantLong _ _ _ ∈ lw_tbl from wd_1571) d_X11_wordHere_122 ?_
            refine j_lcmp_ne (tgt := 133) d_X11_wordHere_125 rfl d_X11_wordHere_126 (by decide) (fun h6 => ?_) (fun h6 => ?_)
            · refine j_lload_n rfl d_X11_wordHere_133 rfl ?_
              refine j_ldc2 (x := 175281103) ⟨by decide, by decide⟩ (show Cond.constantLong _ _ _ ∈ lw_tbl from wd_1572) d_X11_wordHere_134 ?_
              refine j_lcmp_ne (tgt := 145) d_X11_wordHere_137 rfl d_X11_wordHere_138 (by decide) (fun h7 => ?_) (fun h7 => ?_)
              · refine j_lload_n rfl d_X11_wordHere_145 rfl ?_
                refine j_ldc2 (x := 381245) ⟨by decide, by decide⟩ (show Cond.constantLong _ _ _ ∈ lw_tbl from wd_1573) d_X11_wordHere_146 ?_
                refine j_lcmp_ne (tgt := 158) d_X11_wordHere_149 rfl d_X11_wordHere_150 (by decide) (fun h8 => ?_) (fun h8 => ?_)
                · refine j_lload_n rfl d_X11_wordHere_158 rfl ?_
                  refine j_ldc2 (x := 60203876) ⟨by decide, by decide⟩ (show Cond.constantLong _ _ _ ∈ lw_tbl from wd_1574) d_X11_wordHere_159 ?_
                  refine j_lcmp_ne (tgt := 171) d_X11_wordHere_162 rfl d_X11_wordHere_163 (by decide) (fun h9 => ?_) (fun h9 => ?_)
                  · refine j_lload_n rfl d_X11_wordHere_171 rfl ?_
                    refine j_ldc2 (x := 8864267) ⟨by decide, by decide⟩ (show Cond.constantLong _ _ _ ∈ lw_tbl from wd_1575) d_X11_wordHere_172 ?_
                    refine j_lcmp_ne (tgt := 184) d_X11_wordHere_175 rfl d_X11_wordHere_176 (by decide) (fun h10 => ?_) (fun h10 => ?_)
                    · refine j_iconst ⟨by decide, by decide⟩ d_X11_wordHere_184 ?_
                      exact j_iret d_X11_wordHere_185 rfl rfl ⟨rfl, rfl⟩
                    · refine j_bipush ⟨by decide, by decide⟩ (by decide +kernel) d_X11_wordHere_179 ?_
                      refine j_goto (tgt := 185) d_X11_wordHere_181 (by decide) ?_
                      exact j_iret d_X11_wordHere_185 rfl rfl ⟨rfl, rfl⟩
                  · refine j_bipush ⟨by decide, by decide⟩ (by decide +kernel) d_X11_wordHere_166 ?_
                    refine j_goto (tgt := 185) d_X11_wordHere_168 (by decide) ?_
                    exact j_iret d_X11_wordHere_185 rfl rfl ⟨rfl, rfl⟩
                · refine j_bipush ⟨by decide, by decide⟩ (by decide +kernel) d_X11_wordHere_153 ?_
                  refine j_goto (tgt := 185) d_X11_wordHere_155 (by decide) ?_
                  exact j_iret d_X11_wordHere_185 rfl rfl ⟨rfl, rfl⟩
              · refine j_iconst ⟨by decide, by decide⟩ d_X11_wordHere_141 ?_
                refine j_goto (tgt := 185) d_X11_wordHere_142 (by decide) ?_
                exact j_iret d_X11_wordHere_185 rfl rfl ⟨rfl, rfl⟩
            · refine j_iconst ⟨by decide, by decide⟩ d_X11_wordHere_129 ?_
              refine j_goto (tgt := 185) d_X11_wordHere_130 (by decide) ?_
              exact j_iret d_X11_wordHere_185 rfl rfl ⟨rfl, rfl⟩
          · refine j_iconst ⟨by decide, by decide⟩ d_X11_wordHere_117 ?_
            refine j_goto (tgt := 185) d_X11_wordHere_118 (by decide) ?_
            exact j_iret d_X11_wordHere_185 rfl rfl ⟨rfl, rfl⟩
        · refine j_iconst ⟨by decide, by decide⟩ d_X11_wordHere_105 ?_
          refine j_goto (tgt := 185) d_X11_wordHere_106 (by decide) ?_
          exact j_iret d_X11_wordHere_185 rfl rfl ⟨rfl, rfl⟩
      · refine j_iconst ⟨by decide, by decide⟩ d_X11_wordHere_93 ?_
        refine j_goto (tgt := 185) d_X11_wordHere_94 (by decide) ?_
        exact j_iret d_X11_wordHere_185 rfl rfl ⟨rfl, rfl⟩
    · refine j_iconst ⟨by decide, by decide⟩ d_X11_wordHere_81 ?_
      refine j_goto (tgt := 185) d_X11_wordHere_82 (by decide) ?_
      exact j_iret d_X11_wordHere_185 rfl rfl ⟨rfl, rfl⟩
  · refine j_iload_n rfl d_X11_wordHere_12 rfl ?_
    refine j_bipush ⟨by decide, by decide⟩ (by decide +kernel) d_X11_wordHere_13 ?_
    refine j_icmp_ge (tgt := 63) d_X11_wordHere_15 (by decide) (fun h11 => ?_) (fun h11 => ?_)
    · exact j_wk [true, false, false, true] rfl rfl (T_X11_wordHere_63 G rec_4 x3 M0 hrec_4)
    · refine j_aload_n rfl d_X11_wordHere_18 rfl ?_
      refine j_getr fl_Model_13 tg_483 rv_483_4 d_X11_wordHere_19 ?_
      refine j_iload_n rfl d_X11_wordHere_22 rfl ?_
      refine j_iald tg_485 al_485 d_X11_wordHere_23 ?_
      refine j_i2l d_X11_wordHere_24 ?_
      refine j_ldc2 (x := 97) ⟨by decide, by decide⟩ (show Cond.constantLong _ _ _ ∈ lw_tbl from wd_1563) d_X11_wordHere_25 ?_
      refine j_ldc2 (x := 122) ⟨by decide, by decide⟩ (show Cond.constantLong _ _ _ ∈ lw_tbl from wd_1564) d_X11_wordHere_28 ?_
      refine j_bind (fun r13 h14 => ?_)
      refine j_callS (y := y_X11_in) (I' := i_X11_in) (avs := [.inr (.inl (M0 485 x3)), .inr (.inl 97), .inr (.inl 122)]) (st := []) (c_X11_in G (M0 485 x3) 97 122 M0 r13 h14) cs_Model_193 wd_1239 wd_1240 rfl rfl (Nat.le_of_ble_eq_true rfl) ⟨rfl, rfl⟩ ⟨by decide, by decide⟩ ⟨by decide, by decide⟩ d_X11_wordHere_31 ?_
      refine j_if_eq (tgt := 63) d_X11_wordHere_34 (by decide) (fun h15 => ?_) (fun h15 => ?_)
      · exact j_wk [true, false, false, true] rfl rfl (T_X11_wordHere_63 G rec_4 x3 M0 hrec_4)
      · refine j_lload_n rfl d_X11_wordHere_37 rfl ?_
        refine j_lconst (x := 0) ⟨by decide, by decide⟩ (by decide +kernel) d_X11_wordHere_38 ?_
        refine j_lcmp_lt (tgt := 63) d_X11_wordHere_39 rfl d_X11_wordHere_40 (by decide) (fun h16 => ?_) (fun h16 => ?_)
        · exact j_wk [true, false, false, true] rfl rfl (T_X11_wordHere_63 G rec_4 x3 M0 hrec_4)
        · refine j_ldc2 (x := 27) ⟨by decide, by decide⟩ (show Cond.constantLong _ _ _ ∈ lw_tbl from wd_1565) d_X11_wordHere_43 ?_
          refine j_lload_n rfl d_X11_wordHere_46 rfl ?_
          refine j_lmul d_X11_wordHere_47 ?_
          refine j_aload_n rfl d_X11_wordHere_48 rfl ?_
          refine j_getr fl_Model_13 tg_483 rv_483_4 d_X11_wordHere_49 ?_
          refine j_iload_n rfl d_X11_wordHere_52 rfl ?_
          refine j_iald tg_485 al_485 d_X11_wordHere_53 ?_
          refine j_i2l d_X11_wordHere_54 ?_
          refine j_ladd d_X11_wordHere_55 ?_
          refine j_ldc2 (x := 96) ⟨by decide, by decide⟩ (show Cond.constantLong _ _ _ ∈ lw_tbl from wd_1566) d_X11_wordHere_56 ?_
          refine j_lsub d_X11_wordHere_59 ?_
          refine j_goto (tgt := 66) d_X11_wordHere_60 (by decide) ?_
          exact j_wk [true, false, false, true] rfl rfl (T_X11_wordHere_66 G rec_4 x3 (tp_wl ((tp_wl ((tp_wl (27 * x1)) + (M0 485 x3))) - 96)) M0 hrec_4)
def f_X11_wordHere_4 (x1 : Int) (x3 : Int) (M0 : tp_M) : Option (Int) := tp_lp (σ := Int × Int) (fun rec_ u => f_X11_wordHere_4B M0 (fun x1' x3' => rec_ (x1', x3')) u.1 u.2) tp_N (x1, x3)
set_option maxHeartbeats 4000000 in
set_option maxRecDepth 100000 in
theorem T_X11_wordHere_4 (G : tp_G) (x1 : Int) (x3 : Int) (M0 : tp_M) : tp_J i_X11_wordHere (tp_rm 1) G 0 0 (o_X11_wordHere M0) tp_NC (tp_st M0) 0 0 [some (.inr (.inr 483)), some (.inr (.inl x1)), none, some (.inl x3)] 4 [] (f_X11_wordHere_4 x1 x3 M0) := by
  unfold f_X11_wordHere_4
  exact j_lp (σ := Int × Int) (n' := fun _ => tp_NC) (g' := fun u => tp_st M0) (k' := fun _ => 0) (q' := fun _ => 0) (lv' := fun u => [some (.inr (.inr 483)), some (.inr (.inl u.1)), none, some (.inl u.2)]) (fun rec_ hrec u => T_X11_wordHere_4B G M0 (fun x1' x3' => rec_ (x1', x3')) (fun x1' x3' => hrec (x1', x3')) u.1 u.2) tp_N (x1, x3)
def f_X11_wordHere (M0 : tp_M) : Option (Int) :=
  f_X11_wordHere_4 0 0 M0
set_option maxHeartbeats 4000000 in
set_option maxRecDepth 100000 in
theorem T_X11_wordHere (G : tp_G) (M0 : tp_M) : tp_J i_X11_wordHere (tp_rm 1) G 0 0 (o_X11_wordHere M0) tp_NC (tp_st M0) 0 0 [some (.inr (.inr 483)), none, none, none] 0 [] (f_X11_wordHere M0) := by
  unfold f_X11_wordHere
  refine j_lconst (x := 0) ⟨by decide, by decide⟩ (by decide +kernel) d_X11_wordHere_0 ?_
  refine j_lstore_n (lv' := [some (.inr (.inr 483)), some (.inr (.inl 0)), none, none]) rfl d_X11_wordHere_1 (Nat.le_of_ble_eq_true rfl) rfl ?_
  refine j_iconst ⟨by decide, by decide⟩ d_X11_wordHere_2 ?_
  refine j_istore_n (lv' := [some (.inr (.inr 483)), some (.inr (.inl 0)), none, some (.inl 0)]) rfl d_X11_wordHere_3 (Nat.le_of_ble_eq_true rfl) rfl ?_
  exact j_wk [true, true, false, true] rfl rfl (T_X11_wordHere_4 G 0 0 M0)
set_option maxHeartbeats 4000000 in
set_option maxRecDepth 100000 in
theorem c_X11_wordHere (G : tp_G) (M0 : tp_M) (r : Int) (h : f_X11_wordHere M0 = some r) (l : Launch) : Met l y_X11_wordHere (tp_ws y_X11_wordHere i_X11_wordHere) (tp_rm 1) (tp_Pc G [.inr (.inr 483)] tp_NC (tp_st M0)) (tp_Q G ((o_X11_wordHere M0) r)) 0 0 (tp_A G) :=
  tp_met (I := i_X11_wordHere) (y := y_X11_wordHere) (by decide +kernel) (Eq.refl "TypesAtPrimeModel") (Eq.refl "wordHere") (lv := [some (.inr (.inr 483)), none, none, none]) rfl (Nat.le_of_ble_eq_true rfl) (T_X11_wordHere G M0) h l
theorem wd_1562 : (.code ⟨"TypesAtPrimeModel", "wordHere", "()I"⟩ prog_13_method_82_code 4 (some .int) : Cond) ∈ lw_tbl := List.mem_append_right _ (List.mem_of_getElem? (i := 1562) (by decide +kernel))
theorem cs_Model_461 : tp_CS "TypesAtPrimeModel" 461 y_X11_wordHere i_X11_wordHere 0 := ⟨wd_1562, wd_12, by decide, by decide, by decide +kernel⟩
theorem wd_1559 : (.methodLink "TypesAtPrimeModel" 461 ⟨"TypesAtPrimeModel", "wordHere", "()I"⟩ : Cond) ∈ lw_tbl := List.mem_append_right _ (List.mem_of_getElem? (i := 1559) (by decide +kernel))
theorem wd_1561 : (.instanceMethod ⟨"TypesAtPrimeModel", "wordHere", "()I"⟩ : Cond) ∈ lw_tbl := List.mem_append_right _ (List.mem_of_getElem? (i := 1561) (by decide +kernel))
theorem ws_89 : (.selects "TypesAtPrimeModel" ⟨"TypesAtPrimeModel", "wordHere", "()I"⟩ ⟨"TypesAtPrimeModel", "wordHere", "()I"⟩ : Cond) ∈ lw_tbl := List.mem_append_left _ (List.mem_of_getElem? (i := 89) (by decide +kernel))
def y_X11_ask : MethodName := ⟨"TypesAtPrimeModel", "ask", "()I"⟩
abbrev i_X11_ask : tp_I := (prog_13_method_83_code, "TypesAtPrimeModel", (some .int), 2, "ask")
abbrev o_X11_ask : Int × tp_M → tp_O := fun r => (some (.inl r.1), tp_NC, tp_st r.2)
theorem d_X11_ask_0 : decode prog_13_method_83_code 0 = .ok (.aload_n 0, 1) := by decide +kernel
theorem d_X11_ask_1 : decode prog_13_method_83_code 1 = .ok (.invokevirtual 461, 3) := by decide +kernel
theorem d_X11_ask_4 : decode prog_13_method_83_code 4 = .ok (.istore_n 1, 1) := by decide +kernel
theorem d_X11_ask_5 : decode prog_13_method_83_code 5 = .ok (.aload_n 0, 1) := by decide +kernel
theorem d_X11_ask_6 : decode prog_13_method_83_code 6 = .ok (.iconst 0, 1) := by decide +kernel
theorem d_X11_ask_7 : decode prog_13_method_83_code 7 = .ok (.putfield 197, 3) := by decide +kernel
theorem d_X11_ask_10 : decode prog_13_method_83_code 10 = .ok (.iload_n 1, 1) := by decide +kernel
theorem d_X11_ask_11 : decode prog_13_method_83_code 11 = .ok (.ifCond .ge 6, 3) := by decide +kernel
theorem d_X11_ask_14 : decode prog_13_method_83_code 14 = .ok (.bipush (-3), 2) := by decide +kernel
theorem d_X11_ask_16 : decode prog_13_method_83_code 16 = .ok (.ireturn, 1) := by decide +kernel
theorem d_X11_ask_17 : decode prog_13_method_83_code 17 = .ok (.iload_n 1, 1) := by decide +kernel
theorem d_X11_ask_18 : decode prog_13_method_83_code 18 = .ok (.bipush 8, 2) := by decide +kernel
theorem d_X11_ask_20 : decode prog_13_method_83_code 20 = .ok (.if_icmp .ne 10, 3) := by decide +kernel
theorem d_X11_ask_23 : decode prog_13_method_83_code 23 = .ok (.aload_n 0, 1) := by decide +kernel
theorem d_X11_ask_24 : decode prog_13_method_83_code 24 = .ok (.getfield 168, 3) := by decide +kernel
theorem d_X11_ask_27 : decode prog_13_method_83_code 27 = .ok (.goto 20, 3) := by decide +kernel
theorem d_X11_ask_30 : decode prog_13_method_83_code 30 = .ok (.aload_n 0, 1) := by decide +kernel
theorem d_X11_ask_31 : decode prog_13_method_83_code 31 = .ok (.getfield 179, 3) := by decide +kernel
theorem d_X11_ask_34 : decode prog_13_method_83_code 34 = .ok (.ifCond .eq 11, 3) := by decide +kernel
theorem d_X11_ask_37 : decode prog_13_method_83_code 37 = .ok (.aload_n 0, 1) := by decide +kernel
theorem d_X11_ask_38 : decode prog_13_method_83_code 38 = .ok (.iload_n 1, 1) := by decide +kernel
theorem d_X11_ask_39 : decode prog_13_method_83_code 39 = .ok (.invokevirtual 419, 3) := by decide +kernel
theorem d_X11_ask_42 : decode prog_13_method_83_code 42 = .ok (.goto 5, 3) := by decide +kernel
theorem d_X11_ask_45 : decode prog_13_method_83_code 45 = .ok (.bipush (-2), 2) := by decide +kernel
theorem d_X11_ask_47 : decode prog_13_method_83_code 47 = .ok (.ireturn, 1) := by decide +kernel
def f_X11_ask (M0 : tp_M) : Option (Int × tp_M) :=
  (f_X11_wordHere M0).bind fun r1 =>
  tp_mp (tp_up M0 483 5 0) fun M3 =>
  if 0 ≤ r1 then
    if ¬ r1 = 8 then
      if (M3 483 18) = 0 then
        some ((-2), M3)
      else
        (f_X11_asked r1 M3).bind fun r7 =>
        some (r7, M3)
    else
      some ((M3 483 0), M3)
  else
    some ((-3), M3)
set_option maxHeartbeats 4000000 in
set_option maxRecDepth 100000 in
theorem T_X11_ask (G : tp_G) (M0 : tp_M) : tp_J i_X11_ask (tp_rm 2) G 0 0 o_X11_ask tp_NC (tp_st M0) 0 0 [some (.inr (.inr 483)), none] 0 [] (f_X11_ask M0) := by
  unfold f_X11_ask
  refine j_aload_n rfl d_X11_ask_0 rfl ?_
  refine j_bind (fun r1 h2 => ?_)
  refine j_callV (y := y_X11_wordHere) (I' := i_X11_wordHere) (avs := []) (c := 483) (st := []) (c_X11_wordHere G M0 r1 h2) cs_Model_461 wd_1559 wd_1561 ws_89 tg_483 rfl rfl rfl (Nat.le_of_ble_eq_true rfl) ⟨rfl, rfl⟩ ⟨by decide, by decide⟩ ⟨by decide, by decide⟩ d_X11_ask_1 ?_
  refine j_istore_n (lv' := [some (.inr (.inr 483)), some (.inl r1)]) rfl d_X11_ask_4 (Nat.le_of_ble_eq_true rfl) rfl ?_
  refine j_aload_n rfl d_X11_ask_5 rfl ?_
  refine j_iconst ⟨by decide, by decide⟩ d_X11_ask_6 ?_
  refine j_put (z := 0) (v := 0) fl_Model_197 (by decide) tg_483 (pf_11_5 _) pt_11 d_X11_ask_7 (fun M3 hM3 => ?_)
  refine j_iload_n rfl d_X11_ask_10 rfl ?_
  refine j_if_ge (tgt := 17) d_X11_ask_11 (by decide) (fun h4 => ?_) (fun h4 => ?_)
  · refine j_iload_n rfl d_X11_ask_17 rfl ?_
    refine j_bipush ⟨by decide, by decide⟩ (by decide +kernel) d_X11_ask_18 ?_
    refine j_icmp_ne (tgt := 30) d_X11_ask_20 (by decide) (fun h5 => ?_) (fun h5 => ?_)
    · refine j_aload_n rfl d_X11_ask_30 rfl ?_
      refine j_geti fl_Model_179 tg_483 d_X11_ask_31 ?_
      refine j_if_eq (tgt := 45) d_X11_ask_34 (by decide) (fun h6 => ?_) (fun h6 => ?_)
      · refine j_bipush ⟨by decide, by decide⟩ (by decide +kernel) d_X11_ask_45 ?_
        exact j_iret d_X11_ask_47 rfl rfl ⟨rfl, rfl⟩
      · refine j_aload_n rfl d_X11_ask_37 rfl ?_
        refine j_iload_n rfl d_X11_ask_38 rfl ?_
        refine j_bind (fun r7 h8 => ?_)
        refine j_callV (y := y_X11_asked) (I' := i_X11_asked) (avs := [.inl r1]) (c := 483) (st := []) (c_X11_asked G r1 M3 r7 h8) cs_Model_419 wd_1508 wd_1510 ws_86 tg_483 rfl rfl rfl (Nat.le_of_ble_eq_true rfl) ⟨rfl, rfl⟩ ⟨by decide, by decide⟩ ⟨by decide, by decide⟩ d_X11_ask_39 ?_
        refine j_goto (tgt := 47) d_X11_ask_42 (by decide) ?_
        exact j_iret d_X11_ask_47 rfl rfl ⟨rfl, rfl⟩
    · refine j_aload_n rfl d_X11_ask_23 rfl ?_
      refine j_geti fl_Model_168 tg_483 d_X11_ask_24 ?_
      refine j_goto (tgt := 47) d_X11_ask_27 (by decide) ?_
      exact j_iret d_X11_ask_47 rfl rfl ⟨rfl, rfl⟩
  · refine j_bipush ⟨by decide, by decide⟩ (by decide +kernel) d_X11_ask_14 ?_
    exact j_iret d_X11_ask_16 rfl rfl ⟨rfl, rfl⟩
set_option maxHeartbeats 4000000 in
set_option maxRecDepth 100000 in
theorem c_X11_ask (G : tp_G) (M0 : tp_M) (r : Int × tp_M) (h : f_X11_ask M0 = some r) (l : Launch) : Met l y_X11_ask (tp_ws y_X11_ask i_X11_ask) (tp_rm 2) (tp_Pc G [.inr (.inr 483)] tp_NC (tp_st M0)) (tp_Q G (o_X11_ask r)) 0 0 (tp_A G) :=
  tp_met (I := i_X11_ask) (y := y_X11_ask) (by decide +kernel) (Eq.refl "TypesAtPrimeModel") (Eq.refl "ask") (lv := [some (.inr (.inr 483)), none]) rfl (Nat.le_of_ble_eq_true rfl) (T_X11_ask G M0) h l
def y_X11_isSheet : MethodName := ⟨"TypesAtPrimeModel", "isSheet", "(I)Z"⟩
abbrev i_X11_isSheet : tp_I := (prog_13_method_84_code, "TypesAtPrimeModel", (some .boolean), 1, "isSheet")
abbrev o_X11_isSheet (M : tp_M) : Int → tp_O := fun r => (some (.inl r), tp_NC, tp_st M)
theorem d_X11_isSheet_0 : decode prog_13_method_84_code 0 = .ok (.iload_n 0, 1) := by decide +kernel
theorem d_X11_isSheet_1 : decode prog_13_method_84_code 1 = .ok (.ifCond .lt 12, 3) := by decide +kernel
theorem d_X11_isSheet_4 : decode prog_13_method_84_code 4 = .ok (.iload_n 0, 1) := by decide +kernel
theorem d_X11_isSheet_5 : decode prog_13_method_84_code 5 = .ok (.iconst 4, 1) := by decide +kernel
theorem d_X11_isSheet_6 : decode prog_13_method_84_code 6 = .ok (.if_icmp .ge 7, 3) := by decide +kernel
theorem d_X11_isSheet_9 : decode prog_13_method_84_code 9 = .ok (.iconst 1, 1) := by decide +kernel
theorem d_X11_isSheet_10 : decode prog_13_method_84_code 10 = .ok (.goto 4, 3) := by decide +kernel
theorem d_X11_isSheet_13 : decode prog_13_method_84_code 13 = .ok (.iconst 0, 1) := by decide +kernel
theorem d_X11_isSheet_14 : decode prog_13_method_84_code 14 = .ok (.ireturn, 1) := by decide +kernel
def f_X11_isSheet (a0 : Int) (M0 : tp_M) : Option (Int) :=
  if a0 < 0 then
    some 0
  else
    if 4 ≤ a0 then
      some 0
    else
      some 1
set_option maxHeartbeats 4000000 in
set_option maxRecDepth 100000 in
theorem T_X11_isSheet (G : tp_G) (a0 : Int) (M0 : tp_M) : tp_J i_X11_isSheet (tp_rm 0) G 0 0 (o_X11_isSheet M0) tp_NC (tp_st M0) 0 0 [some (.inl a0)] 0 [] (f_X11_isSheet a0 M0) := by
  unfold f_X11_isSheet
  refine j_iload_n rfl d_X11_isSheet_0 rfl ?_
  refine j_if_lt (tgt := 13) d_X11_isSheet_1 (by decide) (fun h1 => ?_) (fun h1 => ?_)
  · refine j_iconst ⟨by decide, by decide⟩ d_X11_isSheet_13 ?_
    exact j_zret d_X11_isSheet_14 rfl (Or.inl rfl) rfl ⟨rfl, rfl⟩
  · refine j_iload_n rfl d_X11_isSheet_4 rfl ?_
    refine j_iconst ⟨by decide, by decide⟩ d_X11_isSheet_5 ?_
    refine j_icmp_ge (tgt := 13) d_X11_isSheet_6 (by decide) (fun h2 => ?_) (fun h2 => ?_)
    · refine j_iconst ⟨by decide, by decide⟩ d_X11_isSheet_13 ?_
      exact j_zret d_X11_isSheet_14 rfl (Or.inl rfl) rfl ⟨rfl, rfl⟩
    · refine j_iconst ⟨by decide, by decide⟩ d_X11_isSheet_9 ?_
      refine j_goto (tgt := 14) d_X11_isSheet_10 (by decide) ?_
      exact j_zret d_X11_isSheet_14 rfl (Or.inr rfl) rfl ⟨rfl, rfl⟩
set_option maxHeartbeats 4000000 in
set_option maxRecDepth 100000 in
theorem c_X11_isSheet (G : tp_G) (a0 : Int) (M0 : tp_M) (r : Int) (h : f_X11_isSheet a0 M0 = some r) (l : Launch) : Met l y_X11_isSheet (tp_ws y_X11_isSheet i_X11_isSheet) (tp_rm 0) (tp_Pc G [.inl a0] tp_NC (tp_st M0)) (tp_Q G ((o_X11_isSheet M0) r)) 0 0 (tp_A G) :=
  tp_met (I := i_X11_isSheet) (y := y_X11_isSheet) (by decide +kernel) (Eq.refl "TypesAtPrimeModel") (Eq.refl "isSheet") (lv := [some (.inl a0)]) rfl (Nat.le_of_ble_eq_true rfl) (T_X11_isSheet G a0 M0) h l
theorem wd_1094 : (.fieldLink "TypesAtPrimeModel" 161 "TypesAtPrimeModel" "numbers" "[I" : Cond) ∈ lw_tbl := List.mem_append_right _ (List.mem_of_getElem? (i := 1094) (by decide +kernel))
theorem fl_Model_161 : tp_F "TypesAtPrimeModel" 161 11 66 2 := ⟨_, _, _, rfl, by decide, rfl, wd_1094, rfl, by decide⟩
theorem tg_534 : tp_tg 534 = 21 := by decide +kernel
theorem al_534 : tp_al 534 = 160 := by decide +kernel
theorem rv_483_66 : tp_rv 483 66 = 534 := by decide +kernel
def y_X11_item0 : MethodName := ⟨"TypesAtPrimeModel", "item0", "(II)J"⟩
abbrev i_X11_item0 : tp_I := (prog_13_method_85_code, "TypesAtPrimeModel", (some .long), 3, "item0")
abbrev o_X11_item0 (M : tp_M) : Int → tp_O := fun r => (some (.inr (.inl r)), tp_NC, tp_st M)
theorem d_X11_item0_0 : decode prog_13_method_85_code 0 = .ok (.aload_n 0, 1) := by decide +kernel
theorem d_X11_item0_1 : decode prog_13_method_85_code 1 = .ok (.getfield 161, 3) := by decide +kernel
theorem d_X11_item0_4 : decode prog_13_method_85_code 4 = .ok (.bipush 40, 2) := by decide +kernel
theorem d_X11_item0_6 : decode prog_13_method_85_code 6 = .ok (.iload_n 1, 1) := by decide +kernel
theorem d_X11_item0_7 : decode prog_13_method_85_code 7 = .ok (.imul, 1) := by decide +kernel
theorem d_X11_item0_8 : decode prog_13_method_85_code 8 = .ok (.iload_n 2, 1) := by decide +kernel
theorem d_X11_item0_9 : decode prog_13_method_85_code 9 = .ok (.iadd, 1) := by decide +kernel
theorem d_X11_item0_10 : decode prog_13_method_85_code 10 = .ok (.iaload, 1) := by decide +kernel
theorem d_X11_item0_11 : decode prog_13_method_85_code 11 = .ok (.i2l, 1) := by decide +kernel
theorem d_X11_item0_12 : decode prog_13_method_85_code 12 = .ok (.lreturn, 1) := by decide +kernel
def f_X11_item0 (a0 : Int) (a1 : Int) (M0 : tp_M) : Option (Int) :=
  if 0 ≤ (tp_w ((tp_w (40 * a0)) + a1)) ∧ (tp_w ((tp_w (40 * a0)) + a1)) < 160 then
    some (M0 534 (tp_w ((tp_w (40 * a0)) + a1))) else none
set_option maxHeartbeats 4000000 in
set_option maxRecDepth 100000 in
theorem T_X11_item0 (G : tp_G) (a0 : Int) (a1 : Int) (M0 : tp_M) : tp_J i_X11_item0 (tp_rm 0) G 0 0 (o_X11_item0 M0) tp_NC (tp_st M0) 0 0 [some (.inr (.inr 483)), some (.inl a0), some (.inl a1)] 0 [] (f_X11_item0 a0 a1 M0) := by
  unfold f_X11_item0
  refine j_aload_n rfl d_X11_item0_0 rfl ?_
  refine j_getr fl_Model_161 tg_483 rv_483_66 d_X11_item0_1 ?_
  refine j_bipush ⟨by decide, by decide⟩ (by decide +kernel) d_X11_item0_4 ?_
  refine j_iload_n rfl d_X11_item0_6 rfl ?_
  refine j_imul d_X11_item0_7 ?_
  refine j_iload_n rfl d_X11_item0_8 rfl ?_
  refine j_iadd d_X11_item0_9 ?_
  refine j_iald tg_534 al_534 d_X11_item0_10 ?_
  refine j_i2l d_X11_item0_11 ?_
  exact j_lret d_X11_item0_12 rfl rfl ⟨rfl, rfl⟩
set_option maxHeartbeats 4000000 in
set_option maxRecDepth 100000 in
theorem c_X11_item0 (G : tp_G) (a0 : Int) (a1 : Int) (M0 : tp_M) (r : Int) (h : f_X11_item0 a0 a1 M0 = some r) (l : Launch) : Met l y_X11_item0 (tp_ws y_X11_item0 i_X11_item0) (tp_rm 0) (tp_Pc G [.inr (.inr 483), .inl a0, .inl a1] tp_NC (tp_st M0)) (tp_Q G ((o_X11_item0 M0) r)) 0 0 (tp_A G) :=
  tp_met (I := i_X11_item0) (y := y_X11_item0) (by decide +kernel) (Eq.refl "TypesAtPrimeModel") (Eq.refl "item0") (lv := [some (.inr (.inr 483)), some (.inl a0), some (.inl a1)]) rfl (Nat.le_of_ble_eq_true rfl) (T_X11_item0 G a0 a1 M0) h l
theorem wd_1093 : (.fieldLink "TypesAtPrimeModel" 158 "TypesAtPrimeModel" "sizes" "[I" : Cond) ∈ lw_tbl := List.mem_append_right _ (List.mem_of_getElem? (i := 1093) (by decide +kernel))
theorem fl_Model_158 : tp_F "TypesAtPrimeModel" 158 11 65 2 := ⟨_, _, _, rfl, by decide, rfl, wd_1093, rfl, by decide⟩
theorem tg_533 : tp_tg 533 = 21 := by decide +kernel
theorem al_533 : tp_al 533 = 4 := by decide +kernel
theorem rv_483_65 : tp_rv 483 65 = 533 := by decide +kernel
theorem wd_1586 : (.code ⟨"TypesAtPrimeModel", "item0", "(II)J"⟩ prog_13_method_85_code 3 (some .long) : Cond) ∈ lw_tbl := List.mem_append_right _ (List.mem_of_getElem? (i := 1586) (by decide +kernel))
theorem cs_Model_464 : tp_CS "TypesAtPrimeModel" 464 y_X11_item0 i_X11_item0 2 := ⟨wd_1586, wd_12, by decide, by decide, by decide +kernel⟩
theorem wd_1583 : (.methodLink "TypesAtPrimeModel" 464 ⟨"TypesAtPrimeModel", "item0", "(II)J"⟩ : Cond) ∈ lw_tbl := List.mem_append_right _ (List.mem_of_getElem? (i := 1583) (by decide +kernel))
theorem wd_1585 : (.instanceMethod ⟨"TypesAtPrimeModel", "item0", "(II)J"⟩ : Cond) ∈ lw_tbl := List.mem_append_right _ (List.mem_of_getElem? (i := 1585) (by decide +kernel))
theorem ws_90 : (.selects "TypesAtPrimeModel" ⟨"TypesAtPrimeModel", "item0", "(II)J"⟩ ⟨"TypesAtPrimeModel", "item0", "(II)J"⟩ : Cond) ∈ lw_tbl := List.mem_append_left _ (List.mem_of_getElem? (i := 90) (by decide +kernel))
def y_X11_goesOn : MethodName := ⟨"TypesAtPrimeModel", "goesOn", "(II)I"⟩
abbrev i_X11_goesOn : tp_I := (prog_13_method_86_code, "TypesAtPrimeModel", (some .int), 8, "goesOn")
abbrev o_X11_goesOn (M : tp_M) : Int → tp_O := fun r => (some (.inl r), tp_NC, tp_st M)
theorem d_X11_goesOn_0 : decode prog_13_method_86_code 0 = .ok (.iconst (-1), 1) := by decide +kernel
theorem d_X11_goesOn_1 : decode prog_13_method_86_code 1 = .ok (.istore_n 3, 1) := by decide +kernel
theorem d_X11_goesOn_2 : decode prog_13_method_86_code 2 = .ok (.iload_n 2, 1) := by decide +kernel
theorem d_X11_goesOn_3 : decode prog_13_method_86_code 3 = .ok (.iconst 1, 1) := by decide +kernel
theorem d_X11_goesOn_4 : decode prog_13_method_86_code 4 = .ok (.iadd, 1) := by decide +kernel
theorem d_X11_goesOn_5 : decode prog_13_method_86_code 5 = .ok (.istore 4, 2) := by decide +kernel
theorem d_X11_goesOn_7 : decode prog_13_method_86_code 7 = .ok (.iload 4, 2) := by decide +kernel
theorem d_X11_goesOn_9 : decode prog_13_method_86_code 9 = .ok (.aload_n 0, 1) := by decide +kernel
theorem d_X11_goesOn_10 : decode prog_13_method_86_code 10 = .ok (.getfield 158, 3) := by decide +kernel
theorem d_X11_goesOn_13 : decode prog_13_method_86_code 13 = .ok (.iload_n 1, 1) := by decide +kernel
theorem d_X11_goesOn_14 : decode prog_13_method_86_code 14 = .ok (.iaload, 1) := by decide +kernel
theorem d_X11_goesOn_15 : decode prog_13_method_86_code 15 = .ok (.if_icmp .ge 90, 3) := by decide +kernel
theorem d_X11_goesOn_18 : decode prog_13_method_86_code 18 = .ok (.aload_n 0, 1) := by decide +kernel
theorem d_X11_goesOn_19 : decode prog_13_method_86_code 19 = .ok (.iload_n 1, 1) := by decide +kernel
theorem d_X11_goesOn_20 : decode prog_13_method_86_code 20 = .ok (.iload 4, 2) := by decide +kernel
theorem d_X11_goesOn_22 : decode prog_13_method_86_code 22 = .ok (.invokevirtual 464, 3) := by decide +kernel
theorem d_X11_goesOn_25 : decode prog_13_method_86_code 25 = .ok (.lconst 0, 1) := by decide +kernel
theorem d_X11_goesOn_26 : decode prog_13_method_86_code 26 = .ok (.lcmp, 1) := by decide +kernel
theorem d_X11_goesOn_27 : decode prog_13_method_86_code 27 = .ok (.ifCond .lt 72, 3) := by decide +kernel
theorem d_X11_goesOn_30 : decode prog_13_method_86_code 30 = .ok (.aload_n 0, 1) := by decide +kernel
theorem d_X11_goesOn_31 : decode prog_13_method_86_code 31 = .ok (.iload_n 1, 1) := by decide +kernel
theorem d_X11_goesOn_32 : decode prog_13_method_86_code 32 = .ok (.iload 4, 2) := by decide +kernel
theorem d_X11_goesOn_34 : decode prog_13_method_86_code 34 = .ok (.invokevirtual 464, 3) := by decide +kernel
theorem d_X11_goesOn_37 : decode prog_13_method_86_code 37 = .ok (.aload_n 0, 1) := by decide +kernel
theorem d_X11_goesOn_38 : decode prog_13_method_86_code 38 = .ok (.iload_n 1, 1) := by decide +kernel
theorem d_X11_goesOn_39 : decode prog_13_method_86_code 39 = .ok (.iload_n 2, 1) := by decide +kernel
theorem d_X11_goesOn_40 : decode prog_13_method_86_code 40 = .ok (.invokevirtual 464, 3) := by decide +kernel
theorem d_X11_goesOn_43 : decode prog_13_method_86_code 43 = .ok (.lsub, 1) := by decide +kernel
theorem d_X11_goesOn_44 : decode prog_13_method_86_code 44 = .ok (.lstore 5, 2) := by decide +kernel
theorem d_X11_goesOn_46 : decode prog_13_method_86_code 46 = .ok (.iload_n 3, 1) := by decide +kernel
theorem d_X11_goesOn_47 : decode prog_13_method_86_code 47 = .ok (.ifCond .lt 33, 3) := by decide +kernel
theorem d_X11_goesOn_50 : decode prog_13_method_86_code 50 = .ok (.lload 5, 2) := by decide +kernel
theorem d_X11_goesOn_52 : decode prog_13_method_86_code 52 = .ok (.iload_n 3, 1) := by decide +kernel
theorem d_X11_goesOn_53 : decode prog_13_method_86_code 53 = .ok (.iload_n 2, 1) := by decide +kernel
theorem d_X11_goesOn_54 : decode prog_13_method_86_code 54 = .ok (.isub, 1) := by decide +kernel
theorem d_X11_goesOn_55 : decode prog_13_method_86_code 55 = .ok (.i2l, 1) := by decide +kernel
theorem d_X11_goesOn_56 : decode prog_13_method_86_code 56 = .ok (.lmul, 1) := by decide +kernel
theorem d_X11_goesOn_57 : decode prog_13_method_86_code 57 = .ok (.aload_n 0, 1) := by decide +kernel
theorem d_X11_goesOn_58 : decode prog_13_method_86_code 58 = .ok (.iload_n 1, 1) := by decide +kernel
theorem d_X11_goesOn_59 : decode prog_13_method_86_code 59 = .ok (.iload_n 3, 1) := by decide +kernel
theorem d_X11_goesOn_60 : decode prog_13_method_86_code 60 = .ok (.invokevirtual 464, 3) := by decide +kernel
theorem d_X11_goesOn_63 : decode prog_13_method_86_code 63 = .ok (.aload_n 0, 1) := by decide +kernel
theorem d_X11_goesOn_64 : decode prog_13_method_86_code 64 = .ok (.iload_n 1, 1) := by decide +kernel
theorem d_X11_goesOn_65 : decode prog_13_method_86_code 65 = .ok (.iload_n 2, 1) := by decide +kernel
theorem d_X11_goesOn_66 : decode prog_13_method_86_code 66 = .ok (.invokevirtual 464, 3) := by decide +kernel
theorem d_X11_goesOn_69 : decode prog_13_method_86_code 69 = .ok (.lsub, 1) := by decide +kernel
theorem d_X11_goesOn_70 : decode prog_13_method_86_code 70 = .ok (.iload 4, 2) := by decide +kernel
theorem d_X11_goesOn_72 : decode prog_13_method_86_code 72 = .ok (.iload_n 2, 1) := by decide +kernel
theorem d_X11_goesOn_73 : decode prog_13_method_86_code 73 = .ok (.isub, 1) := by decide +kernel
theorem d_X11_goesOn_74 : decode prog_13_method_86_code 74 = .ok (.i2l, 1) := by decide +kernel
theorem d_X11_goesOn_75 : decode prog_13_method_86_code 75 = .ok (.lmul, 1) := by decide +kernel
theorem d_X11_goesOn_76 : decode prog_13_method_86_code 76 = .ok (.lcmp, 1) := by decide +kernel
theorem d_X11_goesOn_77 : decode prog_13_method_86_code 77 = .ok (.ifCond .gt 7, 3) := by decide +kernel
theorem d_X11_goesOn_80 : decode prog_13_method_86_code 80 = .ok (.iconst 1, 1) := by decide +kernel
theorem d_X11_goesOn_81 : decode prog_13_method_86_code 81 = .ok (.goto 4, 3) := by decide +kernel
theorem d_X11_goesOn_84 : decode prog_13_method_86_code 84 = .ok (.iconst 0, 1) := by decide +kernel
theorem d_X11_goesOn_85 : decode prog_13_method_86_code 85 = .ok (.istore 7, 2) := by decide +kernel
theorem d_X11_goesOn_87 : decode prog_13_method_86_code 87 = .ok (.iload 7, 2) := by decide +kernel
theorem d_X11_goesOn_89 : decode prog_13_method_86_code 89 = .ok (.ifCond .eq 8, 3) := by decide +kernel
theorem d_X11_goesOn_92 : decode prog_13_method_86_code 92 = .ok (.iload 4, 2) := by decide +kernel
theorem d_X11_goesOn_94 : decode prog_13_method_86_code 94 = .ok (.goto 4, 3) := by decide +kernel
theorem d_X11_goesOn_97 : decode prog_13_method_86_code 97 = .ok (.iload_n 3, 1) := by decide +kernel
theorem d_X11_goesOn_98 : decode prog_13_method_86_code 98 = .ok (.istore_n 3, 1) := by decide +kernel
theorem d_X11_goesOn_99 : decode prog_13_method_86_code 99 = .ok (.iinc 4 1, 3) := by decide +kernel
theorem d_X11_goesOn_102 : decode prog_13_method_86_code 102 = .ok (.goto (-95), 3) := by decide +kernel
theorem d_X11_goesOn_105 : decode prog_13_method_86_code 105 = .ok (.iload_n 3, 1) := by decide +kernel
theorem d_X11_goesOn_106 : decode prog_13_method_86_code 106 = .ok (.ireturn, 1) := by decide +kernel
def f_X11_goesOn_99 (rec_7 : Int → Int → Option (Int)) (x1 : Int) (x2 : Int) (x3 : Int) (x4 : Int) (M0 : tp_M) : Option (Int) :=
  tp_lt (tp_w (x4 + 1)) fun y6 =>
  rec_7 x3 y6
set_option maxHeartbeats 4000000 in
set_option maxRecDepth 100000 in
theorem T_X11_goesOn_99 (G : tp_G) (rec_7 : Int → Int → Option (Int)) (x1 : Int) (x2 : Int) (x3 : Int) (x4 : Int) (M0 : tp_M) (hrec_7 : ∀ (x3' x4' : Int), tp_J i_X11_goesOn (tp_rm 1) G 0 0 (o_X11_goesOn M0) tp_NC (tp_st M0) 0 0 [some (.inr (.inr 483)), some (.inl x1), some (.inl x2), some (.inl (x3')), some (.inl (x4')), none, none, none] 7 [] (rec_7 x3' x4')) : tp_J i_X11_goesOn (tp_rm 1) G 0 0 (o_X11_goesOn M0) tp_NC (tp_st M0) 0 0 [some (.inr (.inr 483)), some (.inl x1), some (.inl x2), some (.inl x3), some (.inl x4), none, none, none] 99 [] (f_X11_goesOn_99 rec_7 x1 x2 x3 x4 M0) := by
  unfold f_X11_goesOn_99
  refine j_iincN (lv' := fun y6 => [some (.inr (.inr 483)), some (.inl x1), some (.inl x2), some (.inl x3), some (.inl y6), none, none, none]) d_X11_goesOn_99 rfl (Nat.le_of_ble_eq_true rfl) (fun _ => rfl) (fun y6 hy6 => ?_)
  refine j_goto (tgt := 7) d_X11_goesOn_102 (by decide) ?_
  exact j_wk [true, true, true, true, true, false, false, false] rfl rfl (hrec_7 x3 y6)
def f_X11_goesOn_98 (rec_7 : Int → Int → Option (Int)) (x1 : Int) (x2 : Int) (x4 : Int) (s0 : Int) (M0 : tp_M) : Option (Int) :=
  f_X11_goesOn_99 rec_7 x1 x2 s0 x4 M0
set_option maxHeartbeats 4000000 in
set_option maxRecDepth 100000 in
theorem T_X11_goesOn_98 (G : tp_G) (rec_7 : Int → Int → Option (Int)) (x1 : Int) (x2 : Int) (x4 : Int) (s0 : Int) (M0 : tp_M) (hrec_7 : ∀ (x3' x4' : Int), tp_J i_X11_goesOn (tp_rm 1) G 0 0 (o_X11_goesOn M0) tp_NC (tp_st M0) 0 0 [some (.inr (.inr 483)), some (.inl x1), some (.inl x2), some (.inl (x3')), some (.inl (x4')), none, none, none] 7 [] (rec_7 x3' x4')) : tp_J i_X11_goesOn (tp_rm 1) G 0 0 (o_X11_goesOn M0) tp_NC (tp_st M0) 0 0 [some (.inr (.inr 483)), some (.inl x1), some (.inl x2), none, some (.inl x4), none, none, none] 98 [.inl s0] (f_X11_goesOn_98 rec_7 x1 x2 x4 s0 M0) := by
  unfold f_X11_goesOn_98
  refine j_istore_n (lv' := [some (.inr (.inr 483)), some (.inl x1), some (.inl x2), some (.inl s0), some (.inl x4), none, none, none]) rfl d_X11_goesOn_98 (Nat.le_of_ble_eq_true rfl) rfl ?_
  exact j_wk [true, true, true, true, true, false, false, false] rfl rfl (T_X11_goesOn_99 G rec_7 x1 x2 s0 x4 M0 hrec_7)
def f_X11_goesOn_85 (rec_7 : Int → Int → Option (Int)) (x1 : Int) (x2 : Int) (x3 : Int) (x4 : Int) (s0 : Int) (M0 : tp_M) : Option (Int) :=
  if s0 = 0 then
    f_X11_goesOn_98 rec_7 x1 x2 x4 x3 M0
  else
    f_X11_goesOn_98 rec_7 x1 x2 x4 x4 M0
set_option maxHeartbeats 4000000 in
set_option maxRecDepth 100000 in
theorem T_X11_goesOn_85 (G : tp_G) (rec_7 : Int → Int → Option (Int)) (x1 : Int) (x2 : Int) (x3 : Int) (x4 : Int) (s0 : Int) (M0 : tp_M) (hrec_7 : ∀ (x3' x4' : Int), tp_J i_X11_goesOn (tp_rm 1) G 0 0 (o_X11_goesOn M0) tp_NC (tp_st M0) 0 0 [some (.inr (.inr 483)), some (.inl x1), some (.inl x2), some (.inl (x3')), some (.inl (x4')), none, none, none] 7 [] (rec_7 x3' x4')) : tp_J i_X11_goesOn (tp_rm 1) G 0 0 (o_X11_goesOn M0) tp_NC (tp_st M0) 0 0 [some (.inr (.inr 483)), some (.inl x1), some (.inl x2), some (.inl x3), some (.inl x4), none, none, none] 85 [.inl s0] (f_X11_goesOn_85 rec_7 x1 x2 x3 x4 s0 M0) := by
  unfold f_X11_goesOn_85
  refine j_istore (lv' := [some (.inr (.inr 483)), some (.inl x1), some (.inl x2), some (.inl x3), some (.inl x4), none, none, some (.inl s0)]) d_X11_goesOn_85 (Nat.le_of_ble_eq_true rfl) rfl ?_
  refine j_iload d_X11_goesOn_87 rfl ?_
  refine j_if_eq (tgt := 97) d_X11_goesOn_89 (by decide) (fun h13 => ?_) (fun h13 => ?_)
  · refine j_iload_n rfl d_X11_goesOn_97 rfl ?_
    exact j_wk [true, true, true, false, true, false, false, false] rfl rfl (T_X11_goesOn_98 G rec_7 x1 x2 x4 x3 M0 hrec_7)
  · refine j_iload d_X11_goesOn_92 rfl ?_
    refine j_goto (tgt := 98) d_X11_goesOn_94 (by decide) ?_
    exact j_wk [true, true, true, false, true, false, false, false] rfl rfl (T_X11_goesOn_98 G rec_7 x1 x2 x4 x4 M0 hrec_7)
def f_X11_goesOn_80 (rec_7 : Int → Int → Option (Int)) (x1 : Int) (x2 : Int) (x3 : Int) (x4 : Int) (M0 : tp_M) : Option (Int) :=
  f_X11_goesOn_85 rec_7 x1 x2 x3 x4 1 M0
set_option maxHeartbeats 4000000 in
set_option maxRecDepth 100000 in
theorem T_X11_goesOn_80 (G : tp_G) (rec_7 : Int → Int → Option (Int)) (x1 : Int) (x2 : Int) (x3 : Int) (x4 : Int) (M0 : tp_M) (hrec_7 : ∀ (x3' x4' : Int), tp_J i_X11_goesOn (tp_rm 1) G 0 0 (o_X11_goesOn M0) tp_NC (tp_st M0) 0 0 [some (.inr (.inr 483)), some (.inl x1), some (.inl x2), some (.inl (x3')), some (.inl (x4')), none, none, none] 7 [] (rec_7 x3' x4')) : tp_J i_X11_goesOn (tp_rm 1) G 0 0 (o_X11_goesOn M0) tp_NC (tp_st M0) 0 0 [some (.inr (.inr 483)), some (.inl x1), some (.inl x2), some (.inl x3), some (.inl x4), none, none, none] 80 [] (f_X11_goesOn_80 rec_7 x1 x2 x3 x4 M0) := by
  unfold f_X11_goesOn_80
  refine j_iconst ⟨by decide, by decide⟩ d_X11_goesOn_80 ?_
  refine j_goto (tgt := 85) d_X11_goesOn_81 (by decide) ?_
  exact j_wk [true, true, true, true, true, false, false, false] rfl rfl (T_X11_goesOn_85 G rec_7 x1 x2 x3 x4 1 M0 hrec_7)
def f_X11_goesOn_7B (x1 : Int) (x2 : Int) (M0 : tp_M) (rec_7 : Int → Int → Option (Int)) (x3 : Int) (x4 : Int) : Option (Int) :=
  if 0 ≤ x1 ∧ x1 < 4 then
    if (M0 533 x1) ≤ x4 then
      some x3
    else
      (f_X11_item0 x1 x4 M0).bind fun r3 =>
      if r3 < 0 then
        f_X11_goesOn_99 rec_7 x1 x2 x3 x4 M0
      else
        (f_X11_item0 x1 x4 M0).bind fun r7 =>
        (f_X11_item0 x1 x2 M0).bind fun r9 =>
        tp_lt ((tp_wl (r7 - r9))) fun y11 =>
        if x3 < 0 then
          f_X11_goesOn_80 rec_7 x1 x2 x3 x4 M0
        else
          (f_X11_item0 x1 x3 M0).bind fun r14 =>
          (f_X11_item0 x1 x2 M0).bind fun r16 =>
          if (tp_wl ((tp_wl (r14 - r16)) * (tp_w (x4 - x2)))) < (tp_wl (y11 * (tp_w (x3 - x2)))) then
            f_X11_goesOn_85 rec_7 x1 x2 x3 x4 0 M0
          else
            f_X11_goesOn_80 rec_7 x1 x2 x3 x4 M0 else none
set_option maxHeartbeats 4000000 in
set_option maxRecDepth 100000 in
theorem T_X11_goesOn_7B (G : tp_G) (x1 : Int) (x2 : Int) (M0 : tp_M) (rec_7 : Int → Int → Option (Int)) (hrec_7 : ∀ (x3' x4' : Int), tp_J i_X11_goesOn (tp_rm 1) G 0 0 (o_X11_goesOn M0) tp_NC (tp_st M0) 0 0 [some (.inr (.inr 483)), some (.inl x1), some (.inl x2), some (.inl (x3')), some (.inl (x4')), none, none, none] 7 [] (rec_7 x3' x4')) (x3 : Int) (x4 : Int) : tp_J i_X11_goesOn (tp_rm 1) G 0 0 (o_X11_goesOn M0) tp_NC (tp_st M0) 0 0 [some (.inr (.inr 483)), some (.inl x1), some (.inl x2), some (.inl x3), some (.inl x4), none, none, none] 7 [] (f_X11_goesOn_7B x1 x2 M0 rec_7 x3 x4) := by
  unfold f_X11_goesOn_7B
  refine j_iload d_X11_goesOn_7 rfl ?_
  refine j_aload_n rfl d_X11_goesOn_9 rfl ?_
  refine j_getr fl_Model_158 tg_483 rv_483_65 d_X11_goesOn_10 ?_
  refine j_iload_n rfl d_X11_goesOn_13 rfl ?_
  refine j_iald tg_533 al_533 d_X11_goesOn_14 ?_
  refine j_icmp_ge (tgt := 105) d_X11_goesOn_15 (by decide) (fun h2 => ?_) (fun h2 => ?_)
  · refine j_iload_n rfl d_X11_goesOn_105 rfl ?_
    exact j_iret d_X11_goesOn_106 rfl rfl ⟨rfl, rfl⟩
  · refine j_aload_n rfl d_X11_goesOn_18 rfl ?_
    refine j_iload_n rfl d_X11_goesOn_19 rfl ?_
    refine j_iload d_X11_goesOn_20 rfl ?_
    refine j_bind (fun r3 h4 => ?_)
    refine j_callV (y := y_X11_item0) (I' := i_X11_item0) (avs := [.inl x1, .inl x4]) (c := 483) (st := []) (c_X11_item0 G x1 x4 M0 r3 h4) cs_Model_464 wd_1583 wd_1585 ws_90 tg_483 rfl rfl rfl (Nat.le_of_ble_eq_true rfl) ⟨rfl, rfl⟩ ⟨by decide, by decide⟩ ⟨by decide, by decide⟩ d_X11_goesOn_22 ?_
    refine j_lconst (x := 0) ⟨by decide, by decide⟩ (by decide +kernel) d_X11_goesOn_25 ?_
    refine j_lcmp_lt (tgt := 99) d_X11_goesOn_26 rfl d_X11_goesOn_27 (by decide) (fun h5 => ?_) (fun h5 => ?_)
    · exact j_wk [true, true, true, true, true, false, false, false] rfl rfl (T_X11_goesOn_99 G rec_7 x1 x2 x3 x4 M0 hrec_7)
    · refine j_aload_n rfl d_X11_goesOn_30 rfl ?_
      refine j_iload_n rfl d_X11_goesOn_31 rfl ?_
      refine j_iload d_X11_goesOn_32 rfl ?_
      refine j_bind (fun r7 h8 => ?_)
      refine j_callV (y := y_X11_item0) (I' := i_X11_item0) (avs := [.inl x1, .inl x4]) (c := 483) (st := []) (c_X11_item0 G x1 x4 M0 r7 h8) cs_Model_464 wd_1583 wd_1585 ws_90 tg_483 rfl rfl rfl (Nat.le_of_ble_eq_true rfl) ⟨rfl, rfl⟩ ⟨by decide, by decide⟩ ⟨by decide, by decide⟩ d_X11_goesOn_34 ?_
      refine j_aload_n rfl d_X11_goesOn_37 rfl ?_
      refine j_iload_n rfl d_X11_goesOn_38 rfl ?_
      refine j_iload_n rfl d_X11_goesOn_39 rfl ?_
      refine j_bind (fun r9 h10 => ?_)
      refine j_callV (y := y_X11_item0) (I' := i_X11_item0) (avs := [.inl x1, .inl x2]) (c := 483) (st := [.inr (.inl r7)]) (c_X11_item0 G x1 x2 M0 r9 h10) cs_Model_464 wd_1583 wd_1585 ws_90 tg_483 rfl rfl rfl (Nat.le_of_ble_eq_true rfl) ⟨rfl, rfl⟩ ⟨by decide, by decide⟩ ⟨by decide, by decide⟩ d_X11_goesOn_40 ?_
      refine j_lsub d_X11_goesOn_43 ?_
      refine j_nmL (fun y11 hy11 => ?_)
      refine j_lstore (lv' := [some (.inr (.inr 483)), some (.inl x1), some (.inl x2), some (.inl x3), some (.inl x4), some (.inr (.inl y11)), none, none]) d_X11_goesOn_44 (Nat.le_of_ble_eq_true rfl) rfl ?_
      refine j_iload_n rfl d_X11_goesOn_46 rfl ?_
      refine j_if_lt (tgt := 80) d_X11_goesOn_47 (by decide) (fun h12 => ?_) (fun h12 => ?_)
      · exact j_wk [true, true, true, true, true, false, false, false] rfl rfl (T_X11_goesOn_80 G rec_7 x1 x2 x3 x4 M0 hrec_7)
      · refine j_lload d_X11_goesOn_50 rfl ?_
        refine j_iload_n rfl d_X11_goesOn_52 rfl ?_
        refine j_iload_n rfl d_X11_goesOn_53 rfl ?_
        refine j_isub d_X11_goesOn_54 ?_
        refine j_i2l d_X11_goesOn_55 ?_
        refine j_lmul d_X11_goesOn_56 ?_
        refine j_aload_n rfl d_X11_goesOn_57 rfl ?_
        refine j_iload_n rfl d_X11_goesOn_58 rfl ?_
        refine j_iload_n rfl d_X11_goesOn_59 rfl ?_
        refine j_bind (fun r14 h15 => ?_)
        refine j_callV (y := y_X11_item0) (I' := i_X11_item0) (avs := [.inl x1, .inl x3]) (c := 483) (st := [.inr (.inl (tp_wl (y11 * (tp_w (x3 - x2)))))]) (c_X11_item0 G x1 x3 M0 r14 h15) cs_Model_464 wd_1583 wd_1585 ws_90 tg_483 rfl rfl rfl (Nat.le_of_ble_eq_true rfl) ⟨rfl, rfl⟩ ⟨by decide, by decide⟩ ⟨by decide, by decide⟩ d_X11_goesOn_60 ?_
        refine j_aload_n rfl d_X11_goesOn_63 rfl ?_
        refine j_iload_n rfl d_X11_goesOn_64 rfl ?_
        refine j_iload_n rfl d_X11_goesOn_65 rfl ?_
        refine j_bind (fun r16 h17 => ?_)
        refine j_callV (y := y_X11_item0) (I' := i_X11_item0) (avs := [.inl x1, .inl x2]) (c := 483) (st := [.inr (.inl r14), .inr (.inl (tp_wl (y11 * (tp_w (x3 - x2)))))]) (c_X11_item0 G x1 x2 M0 r16 h17) cs_Model_464 wd_1583 wd_1585 ws_90 tg_483 rfl rfl rfl (Nat.le_of_ble_eq_true rfl) ⟨rfl, rfl⟩ ⟨by decide, by decide⟩ ⟨by decide, by decide⟩ d_X11_goesOn_66 ?_
        refine j_lsub d_X11_goesOn_69 ?_
        refine j_iload d_X11_goesOn_70 rfl ?_
        refine j_iload_n rfl d_X11_goesOn_72 rfl ?_
        refine j_isub d_X11_goesOn_73 ?_
        refine j_i2l d_X11_goesOn_74 ?_
        refine j_lmul d_X11_goesOn_75 ?_
        refine j_lcmp_gt (tgt := 84) d_X11_goesOn_76 rfl d_X11_goesOn_77 (by decide) (fun h18 => ?_) (fun h18 => ?_)
        · refine j_iconst ⟨by decide, by decide⟩ d_X11_goesOn_84 ?_
          exact j_wk [true, true, true, true, true, false, false, false] rfl rfl (T_X11_goesOn_85 G rec_7 x1 x2 x3 x4 0 M0 hrec_7)
        · exact j_wk [true, true, true, true, true, false, false, false] rfl rfl (T_X11_goesOn_80 G rec_7 x1 x2 x3 x4 M0 hrec_7)
def f_X11_goesOn_7 (x1 : Int) (x2 : Int) (x3 : Int) (x4 : Int) (M0 : tp_M) : Option (Int) := tp_lp (σ := Int × Int) (fun rec_ u => f_X11_goesOn_7B x1 x2 M0 (fun x3' x4' => rec_ (x3', x4')) u.1 u.2) tp_N (x3, x4)
set_option maxHeartbeats 4000000 in
set_option maxRecDepth 100000 in
theorem T_X11_goesOn_7 (G : tp_G) (x1 : Int) (x2 : Int) (x3 : Int) (x4 : Int) (M0 : tp_M) : tp_J i_X11_goesOn (tp_rm 1) G 0 0 (o_X11_goesOn M0) tp_NC (tp_st M0) 0 0 [some (.inr (.inr 483)), some (.inl x1), some (.inl x2), some (.inl x3), some (.inl x4), none, none, none] 7 [] (f_X11_goesOn_7 x1 x2 x3 x4 M0) := by
  unfold f_X11_goesOn_7
  exact j_lp (σ := Int × Int) (n' := fun _ => tp_NC) (g' := fun u => tp_st M0) (k' := fun _ => 0) (q' := fun _ => 0) (lv' := fun u => [some (.inr (.inr 483)), some (.inl x1), some (.inl x2), some (.inl u.1), some (.inl u.2), none, none, none]) (fun rec_ hrec u => T_X11_goesOn_7B G x1 x2 M0 (fun x3' x4' => rec_ (x3', x4')) (fun x3' x4' => hrec (x3', x4')) u.1 u.2) tp_N (x3, x4)
def f_X11_goesOn (a0 : Int) (a1 : Int) (M0 : tp_M) : Option (Int) :=
  tp_lt ((tp_w (a1 + 1))) fun y1 =>
  f_X11_goesOn_7 a0 a1 (-1) y1 M0
set_option maxHeartbeats 4000000 in
set_option maxRecDepth 100000 in
theorem T_X11_goesOn (G : tp_G) (a0 : Int) (a1 : Int) (M0 : tp_M) : tp_J i_X11_goesOn (tp_rm 1) G 0 0 (o_X11_goesOn M0) tp_NC (tp_st M0) 0 0 [some (.inr (.inr 483)), some (.inl a0), some (.inl a1), none, none, none, none, none] 0 [] (f_X11_goesOn a0 a1 M0) := by
  unfold f_X11_goesOn
  refine j_iconst ⟨by decide, by decide⟩ d_X11_goesOn_0 ?_
  refine j_istore_n (lv' := [some (.inr (.inr 483)), some (.inl a0), some (.inl a1), some (.inl (-1)), none, none, none, none]) rfl d_X11_goesOn_1 (Nat.le_of_ble_eq_true rfl) rfl ?_
  refine j_iload_n rfl d_X11_goesOn_2 rfl ?_
  refine j_iconst ⟨by decide, by decide⟩ d_X11_goesOn_3 ?_
  refine j_iadd d_X11_goesOn_4 ?_
  refine j_nmI (fun y1 hy1 => ?_)
  refine j_istore (lv' := [some (.inr (.inr 483)), some (.inl a0), some (.inl a1), some (.inl (-1)), some (.inl y1), none, none, none]) d_X11_goesOn_5 (Nat.le_of_ble_eq_true rfl) rfl ?_
  exact j_wk [true, true, true, true, true, false, false, false] rfl rfl (T_X11_goesOn_7 G a0 a1 (-1) y1 M0)
set_option maxHeartbeats 4000000 in
set_option maxRecDepth 100000 in
theorem c_X11_goesOn (G : tp_G) (a0 : Int) (a1 : Int) (M0 : tp_M) (r : Int) (h : f_X11_goesOn a0 a1 M0 = some r) (l : Launch) : Met l y_X11_goesOn (tp_ws y_X11_goesOn i_X11_goesOn) (tp_rm 1) (tp_Pc G [.inr (.inr 483), .inl a0, .inl a1] tp_NC (tp_st M0)) (tp_Q G ((o_X11_goesOn M0) r)) 0 0 (tp_A G) :=
  tp_met (I := i_X11_goesOn) (y := y_X11_goesOn) (by decide +kernel) (Eq.refl "TypesAtPrimeModel") (Eq.refl "goesOn") (lv := [some (.inr (.inr 483)), some (.inl a0), some (.inl a1), none, none, none, none, none]) rfl (Nat.le_of_ble_eq_true rfl) (T_X11_goesOn G a0 a1 M0) h l
theorem wd_1582 : (.code ⟨"TypesAtPrimeModel", "isSheet", "(I)Z"⟩ prog_13_method_84_code 1 (some .boolean) : Cond) ∈ lw_tbl := List.mem_append_right _ (List.mem_of_getElem? (i := 1582) (by decide +kernel))
theorem cs_Model_468 : tp_CS "TypesAtPrimeModel" 468 y_X11_isSheet i_X11_isSheet 1 := ⟨wd_1582, wd_12, by decide, by decide, by decide +kernel⟩
theorem wd_1580 : (.methodLink "TypesAtPrimeModel" 468 ⟨"TypesAtPrimeModel", "isSheet", "(I)Z"⟩ : Cond) ∈ lw_tbl := List.mem_append_right _ (List.mem_of_getElem? (i := 1580) (by decide +kernel))
theorem wd_1581 : (.static ⟨"TypesAtPrimeModel", "isSheet", "(I)Z"⟩ : Cond) ∈ lw_tbl := List.mem_append_right _ (List.mem_of_getElem? (i := 1581) (by decide +kernel))
theorem wd_1092 : (.fieldLink "TypesAtPrimeModel" 155 "TypesAtPrimeModel" "sorts" "[I" : Cond) ∈ lw_tbl := List.mem_append_right _ (List.mem_of_getElem? (i := 1092) (by decide +kernel))
theorem fl_Model_155 : tp_F "TypesAtPrimeModel" 155 11 64 2 := ⟨_, _, _, rfl, by decide, rfl, wd_1092, rfl, by decide⟩
theorem tg_532 : tp_tg 532 = 21 := by decide +kernel
theorem al_532 : tp_al 532 = 4 := by decide +kernel
theorem rv_483_64 : tp_rv 483 64 = 532 := by decide +kernel
theorem wd_1590 : (.code ⟨"TypesAtPrimeModel", "goesOn", "(II)I"⟩ prog_13_method_86_code 8 (some .int) : Cond) ∈ lw_tbl := List.mem_append_right _ (List.mem_of_getElem? (i := 1590) (by decide +kernel))
theorem cs_Model_471 : tp_CS "TypesAtPrimeModel" 471 y_X11_goesOn i_X11_goesOn 2 := ⟨wd_1590, wd_12, by decide, by decide, by decide +kernel⟩
theorem wd_1587 : (.methodLink "TypesAtPrimeModel" 471 ⟨"TypesAtPrimeModel", "goesOn", "(II)I"⟩ : Cond) ∈ lw_tbl := List.mem_append_right _ (List.mem_of_getElem? (i := 1587) (by decide +kernel))
theorem wd_1589 : (.instanceMethod ⟨"TypesAtPrimeModel", "goesOn", "(II)I"⟩ : Cond) ∈ lw_tbl := List.mem_append_right _ (List.mem_of_getElem? (i := 1589) (by decide +kernel))
theorem ws_91 : (.selects "TypesAtPrimeModel" ⟨"TypesAtPrimeModel", "goesOn", "(II)I"⟩ ⟨"TypesAtPrimeModel", "goesOn", "(II)I"⟩ : Cond) ∈ lw_tbl := List.mem_append_left _ (List.mem_of_getElem? (i := 91) (by decide +kernel))
def y_X11_corner : MethodName := ⟨"TypesAtPrimeModel", "corner", "(II)I"⟩
abbrev i_X11_corner : tp_I := (prog_13_method_87_code, "TypesAtPrimeModel", (some .int), 5, "corner")
abbrev o_X11_corner (M : tp_M) : Int → tp_O := fun r => (some (.inl r), tp_NC, tp_st M)
theorem d_X11_corner_0 : decode prog_13_method_87_code 0 = .ok (.iload_n 1, 1) := by decide +kernel
theorem d_X11_corner_1 : decode prog_13_method_87_code 1 = .ok (.invokestatic 468, 3) := by decide +kernel
theorem d_X11_corner_4 : decode prog_13_method_87_code 4 = .ok (.ifCond .ne 5, 3) := by decide +kernel
theorem d_X11_corner_7 : decode prog_13_method_87_code 7 = .ok (.iconst (-1), 1) := by decide +kernel
theorem d_X11_corner_8 : decode prog_13_method_87_code 8 = .ok (.ireturn, 1) := by decide +kernel
theorem d_X11_corner_9 : decode prog_13_method_87_code 9 = .ok (.aload_n 0, 1) := by decide +kernel
theorem d_X11_corner_10 : decode prog_13_method_87_code 10 = .ok (.getfield 155, 3) := by decide +kernel
theorem d_X11_corner_13 : decode prog_13_method_87_code 13 = .ok (.iload_n 1, 1) := by decide +kernel
theorem d_X11_corner_14 : decode prog_13_method_87_code 14 = .ok (.iaload, 1) := by decide +kernel
theorem d_X11_corner_15 : decode prog_13_method_87_code 15 = .ok (.ifCond .ge 6, 3) := by decide +kernel
theorem d_X11_corner_18 : decode prog_13_method_87_code 18 = .ok (.bipush (-11), 2) := by decide +kernel
theorem d_X11_corner_20 : decode prog_13_method_87_code 20 = .ok (.ireturn, 1) := by decide +kernel
theorem d_X11_corner_21 : decode prog_13_method_87_code 21 = .ok (.iconst (-1), 1) := by decide +kernel
theorem d_X11_corner_22 : decode prog_13_method_87_code 22 = .ok (.istore_n 3, 1) := by decide +kernel
theorem d_X11_corner_23 : decode prog_13_method_87_code 23 = .ok (.aload_n 0, 1) := by decide +kernel
theorem d_X11_corner_24 : decode prog_13_method_87_code 24 = .ok (.getfield 158, 3) := by decide +kernel
theorem d_X11_corner_27 : decode prog_13_method_87_code 27 = .ok (.iload_n 1, 1) := by decide +kernel
theorem d_X11_corner_28 : decode prog_13_method_87_code 28 = .ok (.iaload, 1) := by decide +kernel
theorem d_X11_corner_29 : decode prog_13_method_87_code 29 = .ok (.iconst 1, 1) := by decide +kernel
theorem d_X11_corner_30 : decode prog_13_method_87_code 30 = .ok (.isub, 1) := by decide +kernel
theorem d_X11_corner_31 : decode prog_13_method_87_code 31 = .ok (.istore 4, 2) := by decide +kernel
theorem d_X11_corner_33 : decode prog_13_method_87_code 33 = .ok (.iload 4, 2) := by decide +kernel
theorem d_X11_corner_35 : decode prog_13_method_87_code 35 = .ok (.ifCond .lt 28, 3) := by decide +kernel
theorem d_X11_corner_38 : decode prog_13_method_87_code 38 = .ok (.aload_n 0, 1) := by decide +kernel
theorem d_X11_corner_39 : decode prog_13_method_87_code 39 = .ok (.iload_n 1, 1) := by decide +kernel
theorem d_X11_corner_40 : decode prog_13_method_87_code 40 = .ok (.iload 4, 2) := by decide +kernel
theorem d_X11_corner_42 : decode prog_13_method_87_code 42 = .ok (.invokevirtual 464, 3) := by decide +kernel
theorem d_X11_corner_45 : decode prog_13_method_87_code 45 = .ok (.lconst 0, 1) := by decide +kernel
theorem d_X11_corner_46 : decode prog_13_method_87_code 46 = .ok (.lcmp, 1) := by decide +kernel
theorem d_X11_corner_47 : decode prog_13_method_87_code 47 = .ok (.ifCond .lt 8, 3) := by decide +kernel
theorem d_X11_corner_50 : decode prog_13_method_87_code 50 = .ok (.iload 4, 2) := by decide +kernel
theorem d_X11_corner_52 : decode prog_13_method_87_code 52 = .ok (.goto 4, 3) := by decide +kernel
theorem d_X11_corner_55 : decode prog_13_method_87_code 55 = .ok (.iload_n 3, 1) := by decide +kernel
theorem d_X11_corner_56 : decode prog_13_method_87_code 56 = .ok (.istore_n 3, 1) := by decide +kernel
theorem d_X11_corner_57 : decode prog_13_method_87_code 57 = .ok (.iinc 4 (-1), 3) := by decide +kernel
theorem d_X11_corner_60 : decode prog_13_method_87_code 60 = .ok (.goto (-27), 3) := by decide +kernel
theorem d_X11_corner_63 : decode prog_13_method_87_code 63 = .ok (.iconst 0, 1) := by decide +kernel
theorem d_X11_corner_64 : decode prog_13_method_87_code 64 = .ok (.istore 4, 2) := by decide +kernel
theorem d_X11_corner_66 : decode prog_13_method_87_code 66 = .ok (.iload 4, 2) := by decide +kernel
theorem d_X11_corner_68 : decode prog_13_method_87_code 68 = .ok (.iload_n 2, 1) := by decide +kernel
theorem d_X11_corner_69 : decode prog_13_method_87_code 69 = .ok (.if_icmp .ge 20, 3) := by decide +kernel
theorem d_X11_corner_72 : decode prog_13_method_87_code 72 = .ok (.iload_n 3, 1) := by decide +kernel
theorem d_X11_corner_73 : decode prog_13_method_87_code 73 = .ok (.ifCond .lt 16, 3) := by decide +kernel
theorem d_X11_corner_76 : decode prog_13_method_87_code 76 = .ok (.aload_n 0, 1) := by decide +kernel
theorem d_X11_corner_77 : decode prog_13_method_87_code 77 = .ok (.iload_n 1, 1) := by decide +kernel
theorem d_X11_corner_78 : decode prog_13_method_87_code 78 = .ok (.iload_n 3, 1) := by decide +kernel
theorem d_X11_corner_79 : decode prog_13_method_87_code 79 = .ok (.invokevirtual 471, 3) := by decide +kernel
theorem d_X11_corner_82 : decode prog_13_method_87_code 82 = .ok (.istore_n 3, 1) := by decide +kernel
theorem d_X11_corner_83 : decode prog_13_method_87_code 83 = .ok (.iinc 4 1, 3) := by decide +kernel
theorem d_X11_corner_86 : decode prog_13_method_87_code 86 = .ok (.goto (-20), 3) := by decide +kernel
theorem d_X11_corner_89 : decode prog_13_method_87_code 89 = .ok (.iload_n 2, 1) := by decide +kernel
theorem d_X11_corner_90 : decode prog_13_method_87_code 90 = .ok (.ifCond .lt 7, 3) := by decide +kernel
theorem d_X11_corner_93 : decode prog_13_method_87_code 93 = .ok (.iload_n 3, 1) := by decide +kernel
theorem d_X11_corner_94 : decode prog_13_method_87_code 94 = .ok (.ifCond .ge 8, 3) := by decide +kernel
theorem d_X11_corner_97 : decode prog_13_method_87_code 97 = .ok (.bipush (-2), 2) := by decide +kernel
theorem d_X11_corner_99 : decode prog_13_method_87_code 99 = .ok (.goto 4, 3) := by decide +kernel
theorem d_X11_corner_102 : decode prog_13_method_87_code 102 = .ok (.iload_n 3, 1) := by decide +kernel
theorem d_X11_corner_103 : decode prog_13_method_87_code 103 = .ok (.ireturn, 1) := by decide +kernel
def f_X11_corner_97 (M0 : tp_M) : Option (Int) :=
  some (-2)
set_option maxHeartbeats 4000000 in
set_option maxRecDepth 100000 in
theorem T_X11_corner_97 (G : tp_G) (M0 : tp_M) : tp_J i_X11_corner (tp_rm 2) G 0 0 (o_X11_corner M0) tp_NC (tp_st M0) 0 0 [none, none, none, none, none] 97 [] (f_X11_corner_97 M0) := by
  unfold f_X11_corner_97
  refine j_bipush ⟨by decide, by decide⟩ (by decide +kernel) d_X11_corner_97 ?_
  refine j_goto (tgt := 103) d_X11_corner_99 (by decide) ?_
  exact j_iret d_X11_corner_103 rfl rfl ⟨rfl, rfl⟩
def f_X11_corner_89 (x2 : Int) (x3 : Int) (M0 : tp_M) : Option (Int) :=
  if x2 < 0 then
    f_X11_corner_97 M0
  else
    if 0 ≤ x3 then
      some x3
    else
      f_X11_corner_97 M0
set_option maxHeartbeats 4000000 in
set_option maxRecDepth 100000 in
theorem T_X11_corner_89 (G : tp_G) (x2 : Int) (x3 : Int) (M0 : tp_M) : tp_J i_X11_corner (tp_rm 2) G 0 0 (o_X11_corner M0) tp_NC (tp_st M0) 0 0 [none, none, some (.inl x2), some (.inl x3), none] 89 [] (f_X11_corner_89 x2 x3 M0) := by
  unfold f_X11_corner_89
  refine j_iload_n rfl d_X11_corner_89 rfl ?_
  refine j_if_lt (tgt := 97) d_X11_corner_90 (by decide) (fun h8 => ?_) (fun h8 => ?_)
  · exact j_wk [false, false, false, false, false] rfl rfl (T_X11_corner_97 G M0)
  · refine j_iload_n rfl d_X11_corner_93 rfl ?_
    refine j_if_ge (tgt := 102) d_X11_corner_94 (by decide) (fun h9 => ?_) (fun h9 => ?_)
    · refine j_iload_n rfl d_X11_corner_102 rfl ?_
      exact j_iret d_X11_corner_103 rfl rfl ⟨rfl, rfl⟩
    · exact j_wk [false, false, false, false, false] rfl rfl (T_X11_corner_97 G M0)
def f_X11_corner_66B (x1 : Int) (x2 : Int) (M0 : tp_M) (rec_66 : Int → Int → Option (Int)) (x3 : Int) (x4 : Int) : Option (Int) :=
  if x2 ≤ x4 then
    f_X11_corner_89 x2 x3 M0
  else
    if x3 < 0 then
      f_X11_corner_89 x2 x3 M0
    else
      (f_X11_goesOn x1 x3 M0).bind fun r11 =>
      tp_lt (tp_w (x4 + 1)) fun y13 =>
      rec_66 r11 y13
set_option maxHeartbeats 4000000 in
set_option maxRecDepth 100000 in
theorem T_X11_corner_66B (G : tp_G) (x1 : Int) (x2 : Int) (M0 : tp_M) (rec_66 : Int → Int → Option (Int)) (hrec_66 : ∀ (x3' x4' : Int), tp_J i_X11_corner (tp_rm 2) G 0 0 (o_X11_corner M0) tp_NC (tp_st M0) 0 0 [some (.inr (.inr 483)), some (.inl x1), some (.inl x2), some (.inl (x3')), some (.inl (x4'))] 66 [] (rec_66 x3' x4')) (x3 : Int) (x4 : Int) : tp_J i_X11_corner (tp_rm 2) G 0 0 (o_X11_corner M0) tp_NC (tp_st M0) 0 0 [some (.inr (.inr 483)), some (.inl x1), some (.inl x2), some (.inl x3), some (.inl x4)] 66 [] (f_X11_corner_66B x1 x2 M0 rec_66 x3 x4) := by
  unfold f_X11_corner_66B
  refine j_iload d_X11_corner_66 rfl ?_
  refine j_iload_n rfl d_X11_corner_68 rfl ?_
  refine j_icmp_ge (tgt := 89) d_X11_corner_69 (by decide) (fun h7 => ?_) (fun h7 => ?_)
  · exact j_wk [false, false, true, true, false] rfl rfl (T_X11_corner_89 G x2 x3 M0)
  · refine j_iload_n rfl d_X11_corner_72 rfl ?_
    refine j_if_lt (tgt := 89) d_X11_corner_73 (by decide) (fun h10 => ?_) (fun h10 => ?_)
    · exact j_wk [false, false, true, true, false] rfl rfl (T_X11_corner_89 G x2 x3 M0)
    · refine j_aload_n rfl d_X11_corner_76 rfl ?_
      refine j_iload_n rfl d_X11_corner_77 rfl ?_
      refine j_iload_n rfl d_X11_corner_78 rfl ?_
      refine j_bind (fun r11 h12 => ?_)
      refine j_callV (y := y_X11_goesOn) (I' := i_X11_goesOn) (avs := [.inl x1, .inl x3]) (c := 483) (st := []) (c_X11_goesOn G x1 x3 M0 r11 h12) cs_Model_471 wd_1587 wd_1589 ws_91 tg_483 rfl rfl rfl (Nat.le_of_ble_eq_true rfl) ⟨rfl, rfl⟩ ⟨by decide, by decide⟩ ⟨by decide, by decide⟩ d_X11_corner_79 ?_
      refine j_istore_n (lv' := [some (.inr (.inr 483)), some (.inl x1), some (.inl x2), some (.inl r11), some (.inl x4)]) rfl d_X11_corner_82 (Nat.le_of_ble_eq_true rfl) rfl ?_
      refine j_iincN (lv' := fun y13 => [some (.inr (.inr 483)), some (.inl x1), some (.inl x2), some (.inl r11), some (.inl y13)]) d_X11_corner_83 rfl (Nat.le_of_ble_eq_true rfl) (fun _ => rfl) (fun y13 hy13 => ?_)
      refine j_goto (tgt := 66) d_X11_corner_86 (by decide) ?_
      exact j_wk [true, true, true, true, true] rfl rfl (hrec_66 r11 y13)
def f_X11_corner_66 (x1 : Int) (x2 : Int) (x3 : Int) (x4 : Int) (M0 : tp_M) : Option (Int) := tp_lp (σ := Int × Int) (fun rec_ u => f_X11_corner_66B x1 x2 M0 (fun x3' x4' => rec_ (x3', x4')) u.1 u.2) tp_N (x3, x4)
set_option maxHeartbeats 4000000 in
set_option maxRecDepth 100000 in
theorem T_X11_corner_66 (G : tp_G) (x1 : Int) (x2 : Int) (x3 : Int) (x4 : Int) (M0 : tp_M) : tp_J i_X11_corner (tp_rm 2) G 0 0 (o_X11_corner M0) tp_NC (tp_st M0) 0 0 [some (.inr (.inr 483)), some (.inl x1), some (.inl x2), some (.inl x3), some (.inl x4)] 66 [] (f_X11_corner_66 x1 x2 x3 x4 M0) := by
  unfold f_X11_corner_66
  exact j_lp (σ := Int × Int) (n' := fun _ => tp_NC) (g' := fun u => tp_st M0) (k' := fun _ => 0) (q' := fun _ => 0) (lv' := fun u => [some (.inr (.inr 483)), some (.inl x1), some (.inl x2), some (.inl u.1), some (.inl u.2)]) (fun rec_ hrec u => T_X11_corner_66B G x1 x2 M0 (fun x3' x4' => rec_ (x3', x4')) (fun x3' x4' => hrec (x3', x4')) u.1 u.2) tp_N (x3, x4)
def f_X11_corner_56 (rec_33 : Int → Int → Option (Int)) (x1 : Int) (x2 : Int) (x4 : Int) (s0 : Int) (M0 : tp_M) : Option (Int) :=
  tp_lt (tp_w (x4 + (-1))) fun y17 =>
  rec_33 s0 y17
set_option maxHeartbeats 4000000 in
set_option maxRecDepth 100000 in
theorem T_X11_corner_56 (G : tp_G) (rec_33 : Int → Int → Option (Int)) (x1 : Int) (x2 : Int) (x4 : Int) (s0 : Int) (M0 : tp_M) (hrec_33 : ∀ (x3' x4' : Int), tp_J i_X11_corner (tp_rm 2) G 0 0 (o_X11_corner M0) tp_NC (tp_st M0) 0 0 [some (.inr (.inr 483)), some (.inl x1), some (.inl x2), some (.inl (x3')), some (.inl (x4'))] 33 [] (rec_33 x3' x4')) : tp_J i_X11_corner (tp_rm 2) G 0 0 (o_X11_corner M0) tp_NC (tp_st M0) 0 0 [some (.inr (.inr 483)), some (.inl x1), some (.inl x2), none, some (.inl x4)] 56 [.inl s0] (f_X11_corner_56 rec_33 x1 x2 x4 s0 M0) := by
  unfold f_X11_corner_56
  refine j_istore_n (lv' := [some (.inr (.inr 483)), some (.inl x1), some (.inl x2), some (.inl s0), some (.inl x4)]) rfl d_X11_corner_56 (Nat.le_of_ble_eq_true rfl) rfl ?_
  refine j_iincN (lv' := fun y17 => [some (.inr (.inr 483)), some (.inl x1), some (.inl x2), some (.inl s0), some (.inl y17)]) d_X11_corner_57 rfl (Nat.le_of_ble_eq_true rfl) (fun _ => rfl) (fun y17 hy17 => ?_)
  refine j_goto (tgt := 33) d_X11_corner_60 (by decide) ?_
  exact j_wk [true, true, true, true, true] rfl rfl (hrec_33 s0 y17)
def f_X11_corner_33B (x1 : Int) (x2 : Int) (M0 : tp_M) (rec_33 : Int → Int → Option (Int)) (x3 : Int) (x4 : Int) : Option (Int) :=
  if x4 < 0 then
    f_X11_corner_66 x1 x2 x3 0 M0
  else
    (f_X11_item0 x1 x4 M0).bind fun r14 =>
    if r14 < 0 then
      f_X11_corner_56 rec_33 x1 x2 x4 x3 M0
    else
      f_X11_corner_56 rec_33 x1 x2 x4 x4 M0
set_option maxHeartbeats 4000000 in
set_option maxRecDepth 100000 in
theorem T_X11_corner_33B (G : tp_G) (x1 : Int) (x2 : Int) (M0 : tp_M) (rec_33 : Int → Int → Option (Int)) (hrec_33 : ∀ (x3' x4' : Int), tp_J i_X11_corner (tp_rm 2) G 0 0 (o_X11_corner M0) tp_NC (tp_st M0) 0 0 [some (.inr (.inr 483)), some (.inl x1), some (.inl x2), some (.inl (x3')), some (.inl (x4'))] 33 [] (rec_33 x3' x4')) (x3 : Int) (x4 : Int) : tp_J i_X11_corner (tp_rm 2) G 0 0 (o_X11_corner M0) tp_NC (tp_st M0) 0 0 [some (.inr (.inr 483)), some (.inl x1), some (.inl x2), some (.inl x3), some (.inl x4)] 33 [] (f_X11_corner_33B x1 x2 M0 rec_33 x3 x4) := by
  unfold f_X11_corner_33B
  refine j_iload d_X11_corner_33 rfl ?_
  refine j_if_lt (tgt := 63) d_X11_corner_35 (by decide) (fun h6 => ?_) (fun h6 => ?_)
  · refine j_iconst ⟨by decide, by decide⟩ d_X11_corner_63 ?_
    refine j_istore (lv' := [some (.inr (.inr 483)), some (.inl x1), some (.inl x2), some (.inl x3), some (.inl 0)]) d_X11_corner_64 (Nat.le_of_ble_eq_true rfl) rfl ?_
    exact j_wk [true, true, true, true, true] rfl rfl (T_X11_corner_66 G x1 x2 x3 0 M0)
  · refine j_aload_n rfl d_X11_corner_38 rfl ?_
    refine j_iload_n rfl d_X11_corner_39 rfl ?_
    refine j_iload d_X11_corner_40 rfl ?_
    refine j_bind (fun r14 h15 => ?_)
    refine j_callV (y := y_X11_item0) (I' := i_X11_item0) (avs := [.inl x1, .inl x4]) (c := 483) (st := []) (c_X11_item0 G x1 x4 M0 r14 h15) cs_Model_464 wd_1583 wd_1585 ws_90 tg_483 rfl rfl rfl (Nat.le_of_ble_eq_true rfl) ⟨rfl, rfl⟩ ⟨by decide, by decide⟩ ⟨by decide, by decide⟩ d_X11_corner_42 ?_
    refine j_lconst (x := 0) ⟨by decide, by decide⟩ (by decide +kernel) d_X11_corner_45 ?_
    refine j_lcmp_lt (tgt := 55) d_X11_corner_46 rfl d_X11_corner_47 (by decide) (fun h16 => ?_) (fun h16 => ?_)
    · refine j_iload_n rfl d_X11_corner_55 rfl ?_
      exact j_wk [true, true, true, false, true] rfl rfl (T_X11_corner_56 G rec_33 x1 x2 x4 x3 M0 hrec_33)
    · refine j_iload d_X11_corner_50 rfl ?_
      refine j_goto (tgt := 56) d_X11_corner_52 (by decide) ?_
      exact j_wk [true, true, true, false, true] rfl rfl (T_X11_corner_56 G rec_33 x1 x2 x4 x4 M0 hrec_33)
def f_X11_corner_33 (x1 : Int) (x2 : Int) (x3 : Int) (x4 : Int) (M0 : tp_M) : Option (Int) := tp_lp (σ := Int × Int) (fun rec_ u => f_X11_corner_33B x1 x2 M0 (fun x3' x4' => rec_ (x3', x4')) u.1 u.2) tp_N (x3, x4)
set_option maxHeartbeats 4000000 in
set_option maxRecDepth 100000 in
theorem T_X11_corner_33 (G : tp_G) (x1 : Int) (x2 : Int) (x3 : Int) (x4 : Int) (M0 : tp_M) : tp_J i_X11_corner (tp_rm 2) G 0 0 (o_X11_corner M0) tp_NC (tp_st M0) 0 0 [some (.inr (.inr 483)), some (.inl x1), some (.inl x2), some (.inl x3), some (.inl x4)] 33 [] (f_X11_corner_33 x1 x2 x3 x4 M0) := by
  unfold f_X11_corner_33
  exact j_lp (σ := Int × Int) (n' := fun _ => tp_NC) (g' := fun u => tp_st M0) (k' := fun _ => 0) (q' := fun _ => 0) (lv' := fun u => [some (.inr (.inr 483)), some (.inl x1), some (.inl x2), some (.inl u.1), some (.inl u.2)]) (fun rec_ hrec u => T_X11_corner_33B G x1 x2 M0 (fun x3' x4' => rec_ (x3', x4')) (fun x3' x4' => hrec (x3', x4')) u.1 u.2) tp_N (x3, x4)
def f_X11_corner (a0 : Int) (a1 : Int) (M0 : tp_M) : Option (Int) :=
  (f_X11_isSheet a0 M0).bind fun r1 =>
  if ¬ r1 = 0 then
    if 0 ≤ a0 ∧ a0 < 4 then
      if 0 ≤ (M0 532 a0) then
        if 0 ≤ a0 ∧ a0 < 4 then
          tp_lt ((tp_w ((M0 533 a0) - 1))) fun y5 =>
          f_X11_corner_33 a0 a1 (-1) y5 M0 else none
      else
        some (-11) else none
  else
    some (-1)
set_option maxHeartbeats 4000000 in
set_option maxRecDepth 100000 in
theorem T_X11_corner (G : tp_G) (a0 : Int) (a1 : Int) (M0 : tp_M) : tp_J i_X11_corner (tp_rm 2) G 0 0 (o_X11_corner M0) tp_NC (tp_st M0) 0 0 [some (.inr (.inr 483)), some (.inl a0), some (.inl a1), none, none] 0 [] (f_X11_corner a0 a1 M0) := by
  unfold f_X11_corner
  refine j_iload_n rfl d_X11_corner_0 rfl ?_
  refine j_bind (fun r1 h2 => ?_)
  refine j_callS (y := y_X11_isSheet) (I' := i_X11_isSheet) (avs := [.inl a0]) (st := []) (c_X11_isSheet G a0 M0 r1 h2) cs_Model_468 wd_1580 wd_1581 rfl rfl (Nat.le_of_ble_eq_true rfl) ⟨rfl, rfl⟩ ⟨by decide, by decide⟩ ⟨by decide, by decide⟩ d_X11_corner_1 ?_
  refine j_if_ne (tgt := 9) d_X11_corner_4 (by decide) (fun h3 => ?_) (fun h3 => ?_)
  · refine j_aload_n rfl d_X11_corner_9 rfl ?_
    refine j_getr fl_Model_155 tg_483 rv_483_64 d_X11_corner_10 ?_
    refine j_iload_n rfl d_X11_corner_13 rfl ?_
    refine j_iald tg_532 al_532 d_X11_corner_14 ?_
    refine j_if_ge (tgt := 21) d_X11_corner_15 (by decide) (fun h4 => ?_) (fun h4 => ?_)
    · refine j_iconst ⟨by decide, by decide⟩ d_X11_corner_21 ?_
      refine j_istore_n (lv' := [some (.inr (.inr 483)), some (.inl a0), some (.inl a1), some (.inl (-1)), none]) rfl d_X11_corner_22 (Nat.le_of_ble_eq_true rfl) rfl ?_
      refine j_aload_n rfl d_X11_corner_23 rfl ?_
      refine j_getr fl_Model_158 tg_483 rv_483_65 d_X11_corner_24 ?_
      refine j_iload_n rfl d_X11_corner_27 rfl ?_
      refine j_iald tg_533 al_533 d_X11_corner_28 ?_
      refine j_iconst ⟨by decide, by decide⟩ d_X11_corner_29 ?_
      refine j_isub d_X11_corner_30 ?_
      refine j_nmI (fun y5 hy5 => ?_)
      refine j_istore (lv' := [some (.inr (.inr 483)), some (.inl a0), some (.inl a1), some (.inl (-1)), some (.inl y5)]) d_X11_corner_31 (Nat.le_of_ble_eq_true rfl) rfl ?_
      exact j_wk [true, true, true, true, true] rfl rfl (T_X11_corner_33 G a0 a1 (-1) y5 M0)
    · refine j_bipush ⟨by decide, by decide⟩ (by decide +kernel) d_X11_corner_18 ?_
      exact j_iret d_X11_corner_20 rfl rfl ⟨rfl, rfl⟩
  · refine j_iconst ⟨by decide, by decide⟩ d_X11_corner_7 ?_
    exact j_iret d_X11_corner_8 rfl rfl ⟨rfl, rfl⟩
set_option maxHeartbeats 4000000 in
set_option maxRecDepth 100000 in
theorem c_X11_corner (G : tp_G) (a0 : Int) (a1 : Int) (M0 : tp_M) (r : Int) (h : f_X11_corner a0 a1 M0 = some r) (l : Launch) : Met l y_X11_corner (tp_ws y_X11_corner i_X11_corner) (tp_rm 2) (tp_Pc G [.inr (.inr 483), .inl a0, .inl a1] tp_NC (tp_st M0)) (tp_Q G ((o_X11_corner M0) r)) 0 0 (tp_A G) :=
  tp_met (I := i_X11_corner) (y := y_X11_corner) (by decide +kernel) (Eq.refl "TypesAtPrimeModel") (Eq.refl "corner") (lv := [some (.inr (.inr 483)), some (.inl a0), some (.inl a1), none, none]) rfl (Nat.le_of_ble_eq_true rfl) (T_X11_corner G a0 a1 M0) h l
def y_X11_unasked : MethodName := ⟨"TypesAtPrimeModel", "unasked", "(III)I"⟩
abbrev i_X11_unasked : tp_I := (prog_13_method_88_code, "TypesAtPrimeModel", (some .int), 5, "unasked")
abbrev o_X11_unasked (M : tp_M) : Int → tp_O := fun r => (some (.inl r), tp_NC, tp_st M)
theorem d_X11_unasked_0 : decode prog_13_method_88_code 0 = .ok (.iload_n 1, 1) := by decide +kernel
theorem d_X11_unasked_1 : decode prog_13_method_88_code 1 = .ok (.invokestatic 468, 3) := by decide +kernel
theorem d_X11_unasked_4 : decode prog_13_method_88_code 4 = .ok (.ifCond .ne 5, 3) := by decide +kernel
theorem d_X11_unasked_7 : decode prog_13_method_88_code 7 = .ok (.iconst (-1), 1) := by decide +kernel
theorem d_X11_unasked_8 : decode prog_13_method_88_code 8 = .ok (.ireturn, 1) := by decide +kernel
theorem d_X11_unasked_9 : decode prog_13_method_88_code 9 = .ok (.aload_n 0, 1) := by decide +kernel
theorem d_X11_unasked_10 : decode prog_13_method_88_code 10 = .ok (.getfield 155, 3) := by decide +kernel
theorem d_X11_unasked_13 : decode prog_13_method_88_code 13 = .ok (.iload_n 1, 1) := by decide +kernel
theorem d_X11_unasked_14 : decode prog_13_method_88_code 14 = .ok (.iaload, 1) := by decide +kernel
theorem d_X11_unasked_15 : decode prog_13_method_88_code 15 = .ok (.ifCond .ge 6, 3) := by decide +kernel
theorem d_X11_unasked_18 : decode prog_13_method_88_code 18 = .ok (.bipush (-11), 2) := by decide +kernel
theorem d_X11_unasked_20 : decode prog_13_method_88_code 20 = .ok (.ireturn, 1) := by decide +kernel
theorem d_X11_unasked_21 : decode prog_13_method_88_code 21 = .ok (.iload_n 2, 1) := by decide +kernel
theorem d_X11_unasked_22 : decode prog_13_method_88_code 22 = .ok (.i2l, 1) := by decide +kernel
theorem d_X11_unasked_23 : decode prog_13_method_88_code 23 = .ok (.lconst 0, 1) := by decide +kernel
theorem d_X11_unasked_24 : decode prog_13_method_88_code 24 = .ok (.aload_n 0, 1) := by decide +kernel
theorem d_X11_unasked_25 : decode prog_13_method_88_code 25 = .ok (.getfield 158, 3) := by decide +kernel
theorem d_X11_unasked_28 : decode prog_13_method_88_code 28 = .ok (.iload_n 1, 1) := by decide +kernel
theorem d_X11_unasked_29 : decode prog_13_method_88_code 29 = .ok (.iaload, 1) := by decide +kernel
theorem d_X11_unasked_30 : decode prog_13_method_88_code 30 = .ok (.iconst 1, 1) := by decide +kernel
theorem d_X11_unasked_31 : decode prog_13_method_88_code 31 = .ok (.isub, 1) := by decide +kernel
theorem d_X11_unasked_32 : decode prog_13_method_88_code 32 = .ok (.i2l, 1) := by decide +kernel
theorem d_X11_unasked_33 : decode prog_13_method_88_code 33 = .ok (.invokestatic 193, 3) := by decide +kernel
theorem d_X11_unasked_36 : decode prog_13_method_88_code 36 = .ok (.ifCond .eq 25, 3) := by decide +kernel
theorem d_X11_unasked_39 : decode prog_13_method_88_code 39 = .ok (.iload_n 3, 1) := by decide +kernel
theorem d_X11_unasked_40 : decode prog_13_method_88_code 40 = .ok (.i2l, 1) := by decide +kernel
theorem d_X11_unasked_41 : decode prog_13_method_88_code 41 = .ok (.lconst 0, 1) := by decide +kernel
theorem d_X11_unasked_42 : decode prog_13_method_88_code 42 = .ok (.aload_n 0, 1) := by decide +kernel
theorem d_X11_unasked_43 : decode prog_13_method_88_code 43 = .ok (.getfield 158, 3) := by decide +kernel
theorem d_X11_unasked_46 : decode prog_13_method_88_code 46 = .ok (.iload_n 1, 1) := by decide +kernel
theorem d_X11_unasked_47 : decode prog_13_method_88_code 47 = .ok (.iaload, 1) := by decide +kernel
theorem d_X11_unasked_48 : decode prog_13_method_88_code 48 = .ok (.iconst 1, 1) := by decide +kernel
theorem d_X11_unasked_49 : decode prog_13_method_88_code 49 = .ok (.isub, 1) := by decide +kernel
theorem d_X11_unasked_50 : decode prog_13_method_88_code 50 = .ok (.i2l, 1) := by decide +kernel
theorem d_X11_unasked_51 : decode prog_13_method_88_code 51 = .ok (.invokestatic 193, 3) := by decide +kernel
theorem d_X11_unasked_54 : decode prog_13_method_88_code 54 = .ok (.ifCond .eq 7, 3) := by decide +kernel
theorem d_X11_unasked_57 : decode prog_13_method_88_code 57 = .ok (.iconst 1, 1) := by decide +kernel
theorem d_X11_unasked_58 : decode prog_13_method_88_code 58 = .ok (.goto 4, 3) := by decide +kernel
theorem d_X11_unasked_61 : decode prog_13_method_88_code 61 = .ok (.iconst 0, 1) := by decide +kernel
theorem d_X11_unasked_62 : decode prog_13_method_88_code 62 = .ok (.istore 4, 2) := by decide +kernel
theorem d_X11_unasked_64 : decode prog_13_method_88_code 64 = .ok (.iload 4, 2) := by decide +kernel
theorem d_X11_unasked_66 : decode prog_13_method_88_code 66 = .ok (.ifCond .ne 8, 3) := by decide +kernel
theorem d_X11_unasked_69 : decode prog_13_method_88_code 69 = .ok (.bipush (-12), 2) := by decide +kernel
theorem d_X11_unasked_71 : decode prog_13_method_88_code 71 = .ok (.goto 14, 3) := by decide +kernel
theorem d_X11_unasked_74 : decode prog_13_method_88_code 74 = .ok (.iload_n 2, 1) := by decide +kernel
theorem d_X11_unasked_75 : decode prog_13_method_88_code 75 = .ok (.iload_n 3, 1) := by decide +kernel
theorem d_X11_unasked_76 : decode prog_13_method_88_code 76 = .ok (.if_icmp .ne 8, 3) := by decide +kernel
theorem d_X11_unasked_79 : decode prog_13_method_88_code 79 = .ok (.bipush (-15), 2) := by decide +kernel
theorem d_X11_unasked_81 : decode prog_13_method_88_code 81 = .ok (.goto 4, 3) := by decide +kernel
theorem d_X11_unasked_84 : decode prog_13_method_88_code 84 = .ok (.iconst 0, 1) := by decide +kernel
theorem d_X11_unasked_85 : decode prog_13_method_88_code 85 = .ok (.ireturn, 1) := by decide +kernel
def f_X11_unasked_62 (x2 : Int) (x3 : Int) (s0 : Int) (M0 : tp_M) : Option (Int) :=
  if ¬ s0 = 0 then
    if ¬ x2 = x3 then
      some 0
    else
      some (-15)
  else
    some (-12)
set_option maxHeartbeats 4000000 in
set_option maxRecDepth 100000 in
theorem T_X11_unasked_62 (G : tp_G) (x2 : Int) (x3 : Int) (s0 : Int) (M0 : tp_M) : tp_J i_X11_unasked (tp_rm 1) G 0 0 (o_X11_unasked M0) tp_NC (tp_st M0) 0 0 [none, none, some (.inl x2), some (.inl x3), none] 62 [.inl s0] (f_X11_unasked_62 x2 x3 s0 M0) := by
  unfold f_X11_unasked_62
  refine j_istore (lv' := [none, none, some (.inl x2), some (.inl x3), some (.inl s0)]) d_X11_unasked_62 (Nat.le_of_ble_eq_true rfl) rfl ?_
  refine j_iload d_X11_unasked_64 rfl ?_
  refine j_if_ne (tgt := 74) d_X11_unasked_66 (by decide) (fun h8 => ?_) (fun h8 => ?_)
  · refine j_iload_n rfl d_X11_unasked_74 rfl ?_
    refine j_iload_n rfl d_X11_unasked_75 rfl ?_
    refine j_icmp_ne (tgt := 84) d_X11_unasked_76 (by decide) (fun h9 => ?_) (fun h9 => ?_)
    · refine j_iconst ⟨by decide, by decide⟩ d_X11_unasked_84 ?_
      exact j_iret d_X11_unasked_85 rfl rfl ⟨rfl, rfl⟩
    · refine j_bipush ⟨by decide, by decide⟩ (by decide +kernel) d_X11_unasked_79 ?_
      refine j_goto (tgt := 85) d_X11_unasked_81 (by decide) ?_
      exact j_iret d_X11_unasked_85 rfl rfl ⟨rfl, rfl⟩
  · refine j_bipush ⟨by decide, by decide⟩ (by decide +kernel) d_X11_unasked_69 ?_
    refine j_goto (tgt := 85) d_X11_unasked_71 (by decide) ?_
    exact j_iret d_X11_unasked_85 rfl rfl ⟨rfl, rfl⟩
def f_X11_unasked_61 (x2 : Int) (x3 : Int) (M0 : tp_M) : Option (Int) :=
  f_X11_unasked_62 x2 x3 0 M0
set_option maxHeartbeats 4000000 in
set_option maxRecDepth 100000 in
theorem T_X11_unasked_61 (G : tp_G) (x2 : Int) (x3 : Int) (M0 : tp_M) : tp_J i_X11_unasked (tp_rm 1) G 0 0 (o_X11_unasked M0) tp_NC (tp_st M0) 0 0 [none, none, some (.inl x2), some (.inl x3), none] 61 [] (f_X11_unasked_61 x2 x3 M0) := by
  unfold f_X11_unasked_61
  refine j_iconst ⟨by decide, by decide⟩ d_X11_unasked_61 ?_
  exact j_wk [false, false, true, true, false] rfl rfl (T_X11_unasked_62 G x2 x3 0 M0)
def f_X11_unasked (a0 : Int) (a1 : Int) (a2 : Int) (M0 : tp_M) : Option (Int) :=
  (f_X11_isSheet a0 M0).bind fun r1 =>
  if ¬ r1 = 0 then
    if 0 ≤ a0 ∧ a0 < 4 then
      if 0 ≤ (M0 532 a0) then
        if 0 ≤ a0 ∧ a0 < 4 then
          (f_X11_in a1 0 (tp_w ((M0 533 a0) - 1)) M0).bind fun r5 =>
          if r5 = 0 then
            f_X11_unasked_61 a1 a2 M0
          else
            if 0 ≤ a0 ∧ a0 < 4 then
              (f_X11_in a2 0 (tp_w ((M0 533 a0) - 1)) M0).bind fun r10 =>
              if r10 = 0 then
                f_X11_unasked_61 a1 a2 M0
              else
                f_X11_unasked_62 a1 a2 1 M0 else none else none
      else
        some (-11) else none
  else
    some (-1)
set_option maxHeartbeats 4000000 in
set_option maxRecDepth 100000 in
theorem T_X11_unasked (G : tp_G) (a0 : Int) (a1 : Int) (a2 : Int) (M0 : tp_M) : tp_J i_X11_unasked (tp_rm 1) G 0 0 (o_X11_unasked M0) tp_NC (tp_st M0) 0 0 [some (.inr (.inr 483)), some (.inl a0), some (.inl a1), some (.inl a2), none] 0 [] (f_X11_unasked a0 a1 a2 M0) := by
  unfold f_X11_unasked
  refine j_iload_n rfl d_X11_unasked_0 rfl ?_
  refine j_bind (fun r1 h2 => ?_)
  refine j_callS (y := y_X11_isSheet) (I' := i_X11_isSheet) (avs := [.inl a0]) (st := []) (c_X11_isSheet G a0 M0 r1 h2) cs_Model_468 wd_1580 wd_1581 rfl rfl (Nat.le_of_ble_eq_true rfl) ⟨rfl, rfl⟩ ⟨by decide, by decide⟩ ⟨by decide, by decide⟩ d_X11_unasked_1 ?_
  refine j_if_ne (tgt := 9) d_X11_unasked_4 (by decide) (fun h3 => ?_) (fun h3 => ?_)
  · refine j_aload_n rfl d_X11_unasked_9 rfl ?_
    refine j_getr fl_Model_155 tg_483 rv_483_64 d_X11_unasked_10 ?_
    refine j_iload_n rfl d_X11_unasked_13 rfl ?_
    refine j_iald tg_532 al_532 d_X11_unasked_14 ?_
    refine j_if_ge (tgt := 21) d_X11_unasked_15 (by decide) (fun h4 => ?_) (fun h4 => ?_)
    · refine j_iload_n rfl d_X11_unasked_21 rfl ?_
      refine j_i2l d_X11_unasked_22 ?_
      refine j_lconst (x := 0) ⟨by decide, by decide⟩ (by decide +kernel) d_X11_unasked_23 ?_
      refine j_aload_n rfl d_X11_unasked_24 rfl ?_
      refine j_getr fl_Model_158 tg_483 rv_483_65 d_X11_unasked_25 ?_
      refine j_iload_n rfl d_X11_unasked_28 rfl ?_
      refine j_iald tg_533 al_533 d_X11_unasked_29 ?_
      refine j_iconst ⟨by decide, by decide⟩ d_X11_unasked_30 ?_
      refine j_isub d_X11_unasked_31 ?_
      refine j_i2l d_X11_unasked_32 ?_
      refine j_bind (fun r5 h6 => ?_)
      refine j_callS (y := y_X11_in) (I' := i_X11_in) (avs := [.inr (.inl a1), .inr (.inl 0), .inr (.inl (tp_w ((M0 533 a0) - 1)))]) (st := []) (c_X11_in G a1 0 (tp_w ((M0 533 a0) - 1)) M0 r5 h6) cs_Model_193 wd_1239 wd_1240 rfl rfl (Nat.le_of_ble_eq_true rfl) ⟨rfl, rfl⟩ ⟨by decide, by decide⟩ ⟨by decide, by decide⟩ d_X11_unasked_33 ?_
      refine j_if_eq (tgt := 61) d_X11_unasked_36 (by decide) (fun h7 => ?_) (fun h7 => ?_)
      · exact j_wk [false, false, true, true, false] rfl rfl (T_X11_unasked_61 G a1 a2 M0)
      · refine j_iload_n rfl d_X11_unasked_39 rfl ?_
        refine j_i2l d_X11_unasked_40 ?_
        refine j_lconst (x := 0) ⟨by decide, by decide⟩ (by decide +kernel) d_X11_unasked_41 ?_
        refine j_aload_n rfl d_X11_unasked_42 rfl ?_
        refine j_getr fl_Model_158 tg_483 rv_483_65 d_X11_unasked_43 ?_
        refine j_iload_n rfl d_X11_unasked_46 rfl ?_
        refine j_iald tg_533 al_533 d_X11_unasked_47 ?_
        refine j_iconst ⟨by decide, by decide⟩ d_X11_unasked_48 ?_
        refine j_isub d_X11_unasked_49 ?_
        refine j_i2l d_X11_unasked_50 ?_
        refine j_bind (fun r10 h11 => ?_)
        refine j_callS (y := y_X11_in) (I' := i_X11_in) (avs := [.inr (.inl a2), .inr (.inl 0), .inr (.inl (tp_w ((M0 533 a0) - 1)))]) (st := []) (c_X11_in G a2 0 (tp_w ((M0 533 a0) - 1)) M0 r10 h11) cs_Model_193 wd_1239 wd_1240 rfl rfl (Nat.le_of_ble_eq_true rfl) ⟨rfl, rfl⟩ ⟨by decide, by decide⟩ ⟨by decide, by decide⟩ d_X11_unasked_51 ?_
        refine j_if_eq (tgt := 61) d_X11_unasked_54 (by decide) (fun h12 => ?_) (fun h12 => ?_)
        · exact j_wk [false, false, true, true, false] rfl rfl (T_X11_unasked_61 G a1 a2 M0)
        · refine j_iconst ⟨by decide, by decide⟩ d_X11_unasked_57 ?_
          refine j_goto (tgt := 62) d_X11_unasked_58 (by decide) ?_
          exact j_wk [false, false, true, true, false] rfl rfl (T_X11_unasked_62 G a1 a2 1 M0)
    · refine j_bipush ⟨by decide, by decide⟩ (by decide +kernel) d_X11_unasked_18 ?_
      exact j_iret d_X11_unasked_20 rfl rfl ⟨rfl, rfl⟩
  · refine j_iconst ⟨by decide, by decide⟩ d_X11_unasked_7 ?_
    exact j_iret d_X11_unasked_8 rfl rfl ⟨rfl, rfl⟩
set_option maxHeartbeats 4000000 in
set_option maxRecDepth 100000 in
theorem c_X11_unasked (G : tp_G) (a0 : Int) (a1 : Int) (a2 : Int) (M0 : tp_M) (r : Int) (h : f_X11_unasked a0 a1 a2 M0 = some r) (l : Launch) : Met l y_X11_unasked (tp_ws y_X11_unasked i_X11_unasked) (tp_rm 1) (tp_Pc G [.inr (.inr 483), .inl a0, .inl a1, .inl a2] tp_NC (tp_st M0)) (tp_Q G ((o_X11_unasked M0) r)) 0 0 (tp_A G) :=
  tp_met (I := i_X11_unasked) (y := y_X11_unasked) (by decide +kernel) (Eq.refl "TypesAtPrimeModel") (Eq.refl "unasked") (lv := [some (.inr (.inr 483)), some (.inl a0), some (.inl a1), some (.inl a2), none]) rfl (Nat.le_of_ble_eq_true rfl) (T_X11_unasked G a0 a1 a2 M0) h l
theorem wd_1598 : (.code ⟨"TypesAtPrimeModel", "unasked", "(III)I"⟩ prog_13_method_88_code 5 (some .int) : Cond) ∈ lw_tbl := List.mem_append_right _ (List.mem_of_getElem? (i := 1598) (by decide +kernel))
theorem cs_Model_474 : tp_CS "TypesAtPrimeModel" 474 y_X11_unasked i_X11_unasked 3 := ⟨wd_1598, wd_12, by decide, by decide, by decide +kernel⟩
theorem wd_1595 : (.methodLink "TypesAtPrimeModel" 474 ⟨"TypesAtPrimeModel", "unasked", "(III)I"⟩ : Cond) ∈ lw_tbl := List.mem_append_right _ (List.mem_of_getElem? (i := 1595) (by decide +kernel))
theorem wd_1597 : (.instanceMethod ⟨"TypesAtPrimeModel", "unasked", "(III)I"⟩ : Cond) ∈ lw_tbl := List.mem_append_right _ (List.mem_of_getElem? (i := 1597) (by decide +kernel))
theorem ws_92 : (.selects "TypesAtPrimeModel" ⟨"TypesAtPrimeModel", "unasked", "(III)I"⟩ ⟨"TypesAtPrimeModel", "unasked", "(III)I"⟩ : Cond) ∈ lw_tbl := List.mem_append_left _ (List.mem_of_getElem? (i := 92) (by decide +kernel))
def y_X11_slope : MethodName := ⟨"TypesAtPrimeModel", "slope", "(IIII)J"⟩
abbrev i_X11_slope : tp_I := (prog_13_method_89_code, "TypesAtPrimeModel", (some .long), 9, "slope")
abbrev o_X11_slope (M : tp_M) : Int → tp_O := fun r => (some (.inr (.inl r)), tp_NC, tp_st M)
theorem d_X11_slope_0 : decode prog_13_method_89_code 0 = .ok (.aload_n 0, 1) := by decide +kernel
theorem d_X11_slope_1 : decode prog_13_method_89_code 1 = .ok (.iload_n 1, 1) := by decide +kernel
theorem d_X11_slope_2 : decode prog_13_method_89_code 2 = .ok (.iload_n 2, 1) := by decide +kernel
theorem d_X11_slope_3 : decode prog_13_method_89_code 3 = .ok (.iload_n 3, 1) := by decide +kernel
theorem d_X11_slope_4 : decode prog_13_method_89_code 4 = .ok (.invokevirtual 474, 3) := by decide +kernel
theorem d_X11_slope_7 : decode prog_13_method_89_code 7 = .ok (.ifCond .ne 14, 3) := by decide +kernel
theorem d_X11_slope_10 : decode prog_13_method_89_code 10 = .ok (.iload 4, 2) := by decide +kernel
theorem d_X11_slope_12 : decode prog_13_method_89_code 12 = .ok (.i2l, 1) := by decide +kernel
theorem d_X11_slope_13 : decode prog_13_method_89_code 13 = .ok (.lconst 0, 1) := by decide +kernel
theorem d_X11_slope_14 : decode prog_13_method_89_code 14 = .ok (.lconst 1, 1) := by decide +kernel
theorem d_X11_slope_15 : decode prog_13_method_89_code 15 = .ok (.invokestatic 193, 3) := by decide +kernel
theorem d_X11_slope_18 : decode prog_13_method_89_code 18 = .ok (.ifCond .ne 7, 3) := by decide +kernel
theorem d_X11_slope_21 : decode prog_13_method_89_code 21 = .ok (.ldc2_w 246, 3) := by decide +kernel
theorem d_X11_slope_24 : decode prog_13_method_89_code 24 = .ok (.lreturn, 1) := by decide +kernel
theorem d_X11_slope_25 : decode prog_13_method_89_code 25 = .ok (.aload_n 0, 1) := by decide +kernel
theorem d_X11_slope_26 : decode prog_13_method_89_code 26 = .ok (.iload_n 1, 1) := by decide +kernel
theorem d_X11_slope_27 : decode prog_13_method_89_code 27 = .ok (.iload_n 2, 1) := by decide +kernel
theorem d_X11_slope_28 : decode prog_13_method_89_code 28 = .ok (.invokevirtual 464, 3) := by decide +kernel
theorem d_X11_slope_31 : decode prog_13_method_89_code 31 = .ok (.aload_n 0, 1) := by decide +kernel
theorem d_X11_slope_32 : decode prog_13_method_89_code 32 = .ok (.iload_n 1, 1) := by decide +kernel
theorem d_X11_slope_33 : decode prog_13_method_89_code 33 = .ok (.iload_n 3, 1) := by decide +kernel
theorem d_X11_slope_34 : decode prog_13_method_89_code 34 = .ok (.invokevirtual 464, 3) := by decide +kernel
theorem d_X11_slope_37 : decode prog_13_method_89_code 37 = .ok (.lsub, 1) := by decide +kernel
theorem d_X11_slope_38 : decode prog_13_method_89_code 38 = .ok (.lstore 5, 2) := by decide +kernel
theorem d_X11_slope_40 : decode prog_13_method_89_code 40 = .ok (.iload_n 3, 1) := by decide +kernel
theorem d_X11_slope_41 : decode prog_13_method_89_code 41 = .ok (.iload_n 2, 1) := by decide +kernel
theorem d_X11_slope_42 : decode prog_13_method_89_code 42 = .ok (.isub, 1) := by decide +kernel
theorem d_X11_slope_43 : decode prog_13_method_89_code 43 = .ok (.i2l, 1) := by decide +kernel
theorem d_X11_slope_44 : decode prog_13_method_89_code 44 = .ok (.lstore 7, 2) := by decide +kernel
theorem d_X11_slope_46 : decode prog_13_method_89_code 46 = .ok (.iload 4, 2) := by decide +kernel
theorem d_X11_slope_48 : decode prog_13_method_89_code 48 = .ok (.ifCond .ne 11, 3) := by decide +kernel
theorem d_X11_slope_51 : decode prog_13_method_89_code 51 = .ok (.lload 5, 2) := by decide +kernel
theorem d_X11_slope_53 : decode prog_13_method_89_code 53 = .ok (.lload 7, 2) := by decide +kernel
theorem d_X11_slope_55 : decode prog_13_method_89_code 55 = .ok (.ldiv, 1) := by decide +kernel
theorem d_X11_slope_56 : decode prog_13_method_89_code 56 = .ok (.goto 8, 3) := by decide +kernel
theorem d_X11_slope_59 : decode prog_13_method_89_code 59 = .ok (.lload 5, 2) := by decide +kernel
theorem d_X11_slope_61 : decode prog_13_method_89_code 61 = .ok (.lload 7, 2) := by decide +kernel
theorem d_X11_slope_63 : decode prog_13_method_89_code 63 = .ok (.lrem, 1) := by decide +kernel
theorem d_X11_slope_64 : decode prog_13_method_89_code 64 = .ok (.lreturn, 1) := by decide +kernel
def f_X11_slope (a0 : Int) (a1 : Int) (a2 : Int) (a3 : Int) (M0 : tp_M) : Option (Int) :=
  (f_X11_unasked a0 a1 a2 M0).bind fun r1 =>
  if ¬ r1 = 0 then
    some (-9223372036854775808)
  else
    (f_X11_in a3 0 1 M0).bind fun r4 =>
    if ¬ r4 = 0 then
      (f_X11_item0 a0 a1 M0).bind fun r7 =>
      (f_X11_item0 a0 a2 M0).bind fun r9 =>
      tp_lt ((tp_wl (r7 - r9))) fun y11 =>
      tp_lt ((tp_w (a2 - a1))) fun y12 =>
      if ¬ a3 = 0 then
        if y12 = 0 then none else
          some (Int.tmod y11 y12)
      else
        if y12 = 0 then none else
          some (tp_wl (Int.tdiv y11 y12))
    else
      some (-9223372036854775808)
set_option maxHeartbeats 4000000 in
set_option maxRecDepth 100000 in
theorem T_X11_slope (G : tp_G) (a0 : Int) (a1 : Int) (a2 : Int) (a3 : Int) (M0 : tp_M) : tp_J i_X11_slope (tp_rm 2) G 0 0 (o_X11_slope M0) tp_NC (tp_st M0) 0 0 [some (.inr (.inr 483)), some (.inl a0), some (.inl a1), some (.inl a2), some (.inl a3), none, none, none, none] 0 [] (f_X11_slope a0 a1 a2 a3 M0) := by
  unfold f_X11_slope
  refine j_aload_n rfl d_X11_slope_0 rfl ?_
  refine j_iload_n rfl d_X11_slope_1 rfl ?_
  refine j_iload_n rfl d_X11_slope_2 rfl ?_
  refine j_iload_n rfl d_X11_slope_3 rfl ?_
  refine j_bind (fun r1 h2 => ?_)
  refine j_callV (y := y_X11_unasked) (I' := i_X11_unasked) (avs := [.inl a0, .inl a1, .inl a2]) (c := 483) (st := []) (c_X11_unasked G a0 a1 a2 M0 r1 h2) cs_Model_474 wd_1595 wd_1597 ws_92 tg_483 rfl rfl rfl (Nat.le_of_ble_eq_true rfl) ⟨rfl, rfl⟩ ⟨by decide, by decide⟩ ⟨by decide, by decide⟩ d_X11_slope_4 ?_
  refine j_if_ne (tgt := 21) d_X11_slope_7 (by decide) (fun h3 => ?_) (fun h3 => ?_)
  · refine j_ldc2 (x := (-9223372036854775808)) ⟨by decide, by decide⟩ (show Cond.constantLong _ _ _ ∈ lw_tbl from wd_1305) d_X11_slope_21 ?_
    exact j_lret d_X11_slope_24 rfl rfl ⟨rfl, rfl⟩
  · refine j_iload d_X11_slope_10 rfl ?_
    refine j_i2l d_X11_slope_12 ?_
    refine j_lconst (x := 0) ⟨by decide, by decide⟩ (by decide +kernel) d_X11_slope_13 ?_
    refine j_lconst (x := 1) ⟨by decide, by decide⟩ (by decide +kernel) d_X11_slope_14 ?_
    refine j_bind (fun r4 h5 => ?_)
    refine j_callS (y := y_X11_in) (I' := i_X11_in) (avs := [.inr (.inl a3), .inr (.inl 0), .inr (.inl 1)]) (st := []) (c_X11_in G a3 0 1 M0 r4 h5) cs_Model_193 wd_1239 wd_1240 rfl rfl (Nat.le_of_ble_eq_true rfl) ⟨rfl, rfl⟩ ⟨by decide, by decide⟩ ⟨by decide, by decide⟩ d_X11_slope_15 ?_
    refine j_if_ne (tgt := 25) d_X11_slope_18 (by decide) (fun h6 => ?_) (fun h6 => ?_)
    · refine j_aload_n rfl d_X11_slope_25 rfl ?_
      refine j_iload_n rfl d_X11_slope_26 rfl ?_
      refine j_iload_n rfl d_X11_slope_27 rfl ?_
      refine j_bind (fun r7 h8 => ?_)
      refine j_callV (y := y_X11_item0) (I' := i_X11_item0) (avs := [.inl a0, .inl a1]) (c := 483) (st := []) (c_X11_item0 G a0 a1 M0 r7 h8) cs_Model_464 wd_1583 wd_1585 ws_90 tg_483 rfl rfl rfl (Nat.le_of_ble_eq_true rfl) ⟨rfl, rfl⟩ ⟨by decide, by decide⟩ ⟨by decide, by decide⟩ d_X11_slope_28 ?_
      refine j_aload_n rfl d_X11_slope_31 rfl ?_
      refine j_iload_n rfl d_X11_slope_32 rfl ?_
      refine j_iload_n rfl d_X11_slope_33 rfl ?_
      refine j_bind (fun r9 h10 => ?_)
      refine j_callV (y := y_X11_item0) (I' := i_X11_item0) (avs := [.inl a0, .inl a2]) (c := 483) (st := [.inr (.inl r7)]) (c_X11_item0 G a0 a2 M0 r9 h10) cs_Model_464 wd_1583 wd_1585 ws_90 tg_483 rfl rfl rfl (Nat.le_of_ble_eq_true rfl) ⟨rfl, rfl⟩ ⟨by decide, by decide⟩ ⟨by decide, by decide⟩ d_X11_slope_34 ?_
      refine j_lsub d_X11_slope_37 ?_
      refine j_nmL (fun y11 hy11 => ?_)
      refine j_lstore (lv' := [some (.inr (.inr 483)), some (.inl a0), some (.inl a1), some (.inl a2), some (.inl a3), some (.inr (.inl y11)), none, none, none]) d_X11_slope_38 (Nat.le_of_ble_eq_true rfl) rfl ?_
      refine j_iload_n rfl d_X11_slope_40 rfl ?_
      refine j_iload_n rfl d_X11_slope_41 rfl ?_
      refine j_isub d_X11_slope_42 ?_
      refine j_i2l d_X11_slope_43 ?_
      refine j_nmL (fun y12 hy12 => ?_)
      refine j_lstore (lv' := [some (.inr (.inr 483)), some (.inl a0), some (.inl a1), some (.inl a2), some (.inl a3), some (.inr (.inl y11)), none, some (.inr (.inl y12)), none]) d_X11_slope_44 (Nat.le_of_ble_eq_true rfl) rfl ?_
      refine j_iload d_X11_slope_46 rfl ?_
      refine j_if_ne (tgt := 59) d_X11_slope_48 (by decide) (fun h13 => ?_) (fun h13 => ?_)
      · refine j_lload d_X11_slope_59 rfl ?_
        refine j_lload d_X11_slope_61 rfl ?_
        refine j_lrem d_X11_slope_63 ?_
        exact j_lret d_X11_slope_64 rfl rfl ⟨rfl, rfl⟩
      · refine j_lload d_X11_slope_51 rfl ?_
        refine j_lload d_X11_slope_53 rfl ?_
        refine j_ldiv d_X11_slope_55 ?_
        refine j_goto (tgt := 64) d_X11_slope_56 (by decide) ?_
        exact j_lret d_X11_slope_64 rfl rfl ⟨rfl, rfl⟩
    · refine j_ldc2 (x := (-9223372036854775808)) ⟨by decide, by decide⟩ (show Cond.constantLong _ _ _ ∈ lw_tbl from wd_1305) d_X11_slope_21 ?_
      exact j_lret d_X11_slope_24 rfl rfl ⟨rfl, rfl⟩
set_option maxHeartbeats 4000000 in
set_option maxRecDepth 100000 in
theorem c_X11_slope (G : tp_G) (a0 : Int) (a1 : Int) (a2 : Int) (a3 : Int) (M0 : tp_M) (r : Int) (h : f_X11_slope a0 a1 a2 a3 M0 = some r) (l : Launch) : Met l y_X11_slope (tp_ws y_X11_slope i_X11_slope) (tp_rm 2) (tp_Pc G [.inr (.inr 483), .inl a0, .inl a1, .inl a2, .inl a3] tp_NC (tp_st M0)) (tp_Q G ((o_X11_slope M0) r)) 0 0 (tp_A G) :=
  tp_met (I := i_X11_slope) (y := y_X11_slope) (by decide +kernel) (Eq.refl "TypesAtPrimeModel") (Eq.refl "slope") (lv := [some (.inr (.inr 483)), some (.inl a0), some (.inl a1), some (.inl a2), some (.inl a3), none, none, none, none]) rfl (Nat.le_of_ble_eq_true rfl) (T_X11_slope G a0 a1 a2 a3 M0) h l
def y_X11_whyNot : MethodName := ⟨"TypesAtPrimeModel", "whyNot", "(III)I"⟩
abbrev i_X11_whyNot : tp_I := (prog_13_method_90_code, "TypesAtPrimeModel", (some .int), 4, "whyNot")
abbrev o_X11_whyNot (M : tp_M) : Int → tp_O := fun r => (some (.inl r), tp_NC, tp_st M)
theorem d_X11_whyNot_0 : decode prog_13_method_90_code 0 = .ok (.aload_n 0, 1) := by decide +kernel
theorem d_X11_whyNot_1 : decode prog_13_method_90_code 1 = .ok (.iload_n 1, 1) := by decide +kernel
theorem d_X11_whyNot_2 : decode prog_13_method_90_code 2 = .ok (.iload_n 2, 1) := by decide +kernel
theorem d_X11_whyNot_3 : decode prog_13_method_90_code 3 = .ok (.iload_n 3, 1) := by decide +kernel
theorem d_X11_whyNot_4 : decode prog_13_method_90_code 4 = .ok (.invokevirtual 474, 3) := by decide +kernel
theorem d_X11_whyNot_7 : decode prog_13_method_90_code 7 = .ok (.ireturn, 1) := by decide +kernel
def f_X11_whyNot (a0 : Int) (a1 : Int) (a2 : Int) (M0 : tp_M) : Option (Int) :=
  (f_X11_unasked a0 a1 a2 M0).bind fun r1 =>
  some r1
set_option maxHeartbeats 4000000 in
set_option maxRecDepth 100000 in
theorem T_X11_whyNot (G : tp_G) (a0 : Int) (a1 : Int) (a2 : Int) (M0 : tp_M) : tp_J i_X11_whyNot (tp_rm 2) G 0 0 (o_X11_whyNot M0) tp_NC (tp_st M0) 0 0 [some (.inr (.inr 483)), some (.inl a0), some (.inl a1), some (.inl a2)] 0 [] (f_X11_whyNot a0 a1 a2 M0) := by
  unfold f_X11_whyNot
  refine j_aload_n rfl d_X11_whyNot_0 rfl ?_
  refine j_iload_n rfl d_X11_whyNot_1 rfl ?_
  refine j_iload_n rfl d_X11_whyNot_2 rfl ?_
  refine j_iload_n rfl d_X11_whyNot_3 rfl ?_
  refine j_bind (fun r1 h2 => ?_)
  refine j_callV (y := y_X11_unasked) (I' := i_X11_unasked) (avs := [.inl a0, .inl a1, .inl a2]) (c := 483) (st := []) (c_X11_unasked G a0 a1 a2 M0 r1 h2) cs_Model_474 wd_1595 wd_1597 ws_92 tg_483 rfl rfl rfl (Nat.le_of_ble_eq_true rfl) ⟨rfl, rfl⟩ ⟨by decide, by decide⟩ ⟨by decide, by decide⟩ d_X11_whyNot_4 ?_
  exact j_iret d_X11_whyNot_7 rfl rfl ⟨rfl, rfl⟩
set_option maxHeartbeats 4000000 in
set_option maxRecDepth 100000 in
theorem c_X11_whyNot (G : tp_G) (a0 : Int) (a1 : Int) (a2 : Int) (M0 : tp_M) (r : Int) (h : f_X11_whyNot a0 a1 a2 M0 = some r) (l : Launch) : Met l y_X11_whyNot (tp_ws y_X11_whyNot i_X11_whyNot) (tp_rm 2) (tp_Pc G [.inr (.inr 483), .inl a0, .inl a1, .inl a2] tp_NC (tp_st M0)) (tp_Q G ((o_X11_whyNot M0) r)) 0 0 (tp_A G) :=
  tp_met (I := i_X11_whyNot) (y := y_X11_whyNot) (by decide +kernel) (Eq.refl "TypesAtPrimeModel") (Eq.refl "whyNot") (lv := [some (.inr (.inr 483)), some (.inl a0), some (.inl a1), some (.inl a2)]) rfl (Nat.le_of_ble_eq_true rfl) (T_X11_whyNot G a0 a1 a2 M0) h l
def y_X11_lowest : MethodName := ⟨"TypesAtPrimeModel", "lowest", "(II)I"⟩
abbrev i_X11_lowest : tp_I := (prog_13_method_91_code, "TypesAtPrimeModel", (some .int), 3, "lowest")
abbrev o_X11_lowest (M : tp_M) : Int → tp_O := fun r => (some (.inl r), tp_NC, tp_st M)
theorem d_X11_lowest_0 : decode prog_13_method_91_code 0 = .ok (.aload_n 0, 1) := by decide +kernel
theorem d_X11_lowest_1 : decode prog_13_method_91_code 1 = .ok (.getfield 155, 3) := by decide +kernel
theorem d_X11_lowest_4 : decode prog_13_method_91_code 4 = .ok (.iload_n 1, 1) := by decide +kernel
theorem d_X11_lowest_5 : decode prog_13_method_91_code 5 = .ok (.iaload, 1) := by decide +kernel
theorem d_X11_lowest_6 : decode prog_13_method_91_code 6 = .ok (.ifCond .ne 8, 3) := by decide +kernel
theorem d_X11_lowest_9 : decode prog_13_method_91_code 9 = .ok (.iload_n 2, 1) := by decide +kernel
theorem d_X11_lowest_10 : decode prog_13_method_91_code 10 = .ok (.i2b, 1) := by decide +kernel
theorem d_X11_lowest_11 : decode prog_13_method_91_code 11 = .ok (.goto 4, 3) := by decide +kernel
theorem d_X11_lowest_14 : decode prog_13_method_91_code 14 = .ok (.iload_n 2, 1) := by decide +kernel
theorem d_X11_lowest_15 : decode prog_13_method_91_code 15 = .ok (.ireturn, 1) := by decide +kernel
def f_X11_lowest (a0 : Int) (a1 : Int) (M0 : tp_M) : Option (Int) :=
  if 0 ≤ a0 ∧ a0 < 4 then
    if ¬ (M0 532 a0) = 0 then
      some a1
    else
      some (tp_b a1) else none
set_option maxHeartbeats 4000000 in
set_option maxRecDepth 100000 in
theorem T_X11_lowest (G : tp_G) (a0 : Int) (a1 : Int) (M0 : tp_M) : tp_J i_X11_lowest (tp_rm 0) G 0 0 (o_X11_lowest M0) tp_NC (tp_st M0) 0 0 [some (.inr (.inr 483)), some (.inl a0), some (.inl a1)] 0 [] (f_X11_lowest a0 a1 M0) := by
  unfold f_X11_lowest
  refine j_aload_n rfl d_X11_lowest_0 rfl ?_
  refine j_getr fl_Model_155 tg_483 rv_483_64 d_X11_lowest_1 ?_
  refine j_iload_n rfl d_X11_lowest_4 rfl ?_
  refine j_iald tg_532 al_532 d_X11_lowest_5 ?_
  refine j_if_ne (tgt := 14) d_X11_lowest_6 (by decide) (fun h1 => ?_) (fun h1 => ?_)
  · refine j_iload_n rfl d_X11_lowest_14 rfl ?_
    exact j_iret d_X11_lowest_15 rfl rfl ⟨rfl, rfl⟩
  · refine j_iload_n rfl d_X11_lowest_9 rfl ?_
    refine j_i2b d_X11_lowest_10 ?_
    refine j_goto (tgt := 15) d_X11_lowest_11 (by decide) ?_
    exact j_iret d_X11_lowest_15 rfl rfl ⟨rfl, rfl⟩
set_option maxHeartbeats 4000000 in
set_option maxRecDepth 100000 in
theorem c_X11_lowest (G : tp_G) (a0 : Int) (a1 : Int) (M0 : tp_M) (r : Int) (h : f_X11_lowest a0 a1 M0 = some r) (l : Launch) : Met l y_X11_lowest (tp_ws y_X11_lowest i_X11_lowest) (tp_rm 0) (tp_Pc G [.inr (.inr 483), .inl a0, .inl a1] tp_NC (tp_st M0)) (tp_Q G ((o_X11_lowest M0) r)) 0 0 (tp_A G) :=
  tp_met (I := i_X11_lowest) (y := y_X11_lowest) (by decide +kernel) (Eq.refl "TypesAtPrimeModel") (Eq.refl "lowest") (lv := [some (.inr (.inr 483)), some (.inl a0), some (.inl a1)]) rfl (Nat.le_of_ble_eq_true rfl) (T_X11_lowest G a0 a1 M0) h l
theorem wd_1610 : (.code ⟨"TypesAtPrimeModel", "lowest", "(II)I"⟩ prog_13_method_91_code 3 (some .int) : Cond) ∈ lw_tbl := List.mem_append_right _ (List.mem_of_getElem? (i := 1610) (by decide +kernel))
theorem cs_Model_477 : tp_CS "TypesAtPrimeModel" 477 y_X11_lowest i_X11_lowest 2 := ⟨wd_1610, wd_12, by decide, by decide, by decide +kernel⟩
theorem wd_1607 : (.methodLink "TypesAtPrimeModel" 477 ⟨"TypesAtPrimeModel", "lowest", "(II)I"⟩ : Cond) ∈ lw_tbl := List.mem_append_right _ (List.mem_of_getElem? (i := 1607) (by decide +kernel))
theorem wd_1609 : (.instanceMethod ⟨"TypesAtPrimeModel", "lowest", "(II)I"⟩ : Cond) ∈ lw_tbl := List.mem_append_right _ (List.mem_of_getElem? (i := 1609) (by decide +kernel))
theorem ws_93 : (.selects "TypesAtPrimeModel" ⟨"TypesAtPrimeModel", "lowest", "(II)I"⟩ ⟨"TypesAtPrimeModel", "lowest", "(II)I"⟩ : Cond) ∈ lw_tbl := List.mem_append_left _ (List.mem_of_getElem? (i := 93) (by decide +kernel))
def y_X11_spill : MethodName := ⟨"TypesAtPrimeModel", "spill", "(III)I"⟩
abbrev i_X11_spill : tp_I := (prog_13_method_92_code, "TypesAtPrimeModel", (some .int), 5, "spill")
abbrev o_X11_spill : Int × tp_M → tp_O := fun r => (some (.inl r.1), tp_NC, tp_st r.2)
theorem d_X11_spill_0 : decode prog_13_method_92_code 0 = .ok (.iload_n 2, 1) := by decide +kernel
theorem d_X11_spill_1 : decode prog_13_method_92_code 1 = .ok (.invokestatic 468, 3) := by decide +kernel
theorem d_X11_spill_4 : decode prog_13_method_92_code 4 = .ok (.ifCond .ne 5, 3) := by decide +kernel
theorem d_X11_spill_7 : decode prog_13_method_92_code 7 = .ok (.iconst (-1), 1) := by decide +kernel
theorem d_X11_spill_8 : decode prog_13_method_92_code 8 = .ok (.ireturn, 1) := by decide +kernel
theorem d_X11_spill_9 : decode prog_13_method_92_code 9 = .ok (.aload_n 0, 1) := by decide +kernel
theorem d_X11_spill_10 : decode prog_13_method_92_code 10 = .ok (.iload_n 1, 1) := by decide +kernel
theorem d_X11_spill_11 : decode prog_13_method_92_code 11 = .ok (.invokevirtual 424, 3) := by decide +kernel
theorem d_X11_spill_14 : decode prog_13_method_92_code 14 = .ok (.ifCond .ne 6, 3) := by decide +kernel
theorem d_X11_spill_17 : decode prog_13_method_92_code 17 = .ok (.bipush (-2), 2) := by decide +kernel
theorem d_X11_spill_19 : decode prog_13_method_92_code 19 = .ok (.ireturn, 1) := by decide +kernel
theorem d_X11_spill_20 : decode prog_13_method_92_code 20 = .ok (.aload_n 0, 1) := by decide +kernel
theorem d_X11_spill_21 : decode prog_13_method_92_code 21 = .ok (.getfield 155, 3) := by decide +kernel
theorem d_X11_spill_24 : decode prog_13_method_92_code 24 = .ok (.iload_n 2, 1) := by decide +kernel
theorem d_X11_spill_25 : decode prog_13_method_92_code 25 = .ok (.iaload, 1) := by decide +kernel
theorem d_X11_spill_26 : decode prog_13_method_92_code 26 = .ok (.ifCond .ge 6, 3) := by decide +kernel
theorem d_X11_spill_29 : decode prog_13_method_92_code 29 = .ok (.bipush (-11), 2) := by decide +kernel
theorem d_X11_spill_31 : decode prog_13_method_92_code 31 = .ok (.ireturn, 1) := by decide +kernel
theorem d_X11_spill_32 : decode prog_13_method_92_code 32 = .ok (.iload_n 3, 1) := by decide +kernel
theorem d_X11_spill_33 : decode prog_13_method_92_code 33 = .ok (.i2l, 1) := by decide +kernel
theorem d_X11_spill_34 : decode prog_13_method_92_code 34 = .ok (.lconst 0, 1) := by decide +kernel
theorem d_X11_spill_35 : decode prog_13_method_92_code 35 = .ok (.aload_n 0, 1) := by decide +kernel
theorem d_X11_spill_36 : decode prog_13_method_92_code 36 = .ok (.getfield 158, 3) := by decide +kernel
theorem d_X11_spill_39 : decode prog_13_method_92_code 39 = .ok (.iload_n 2, 1) := by decide +kernel
theorem d_X11_spill_40 : decode prog_13_method_92_code 40 = .ok (.iaload, 1) := by decide +kernel
theorem d_X11_spill_41 : decode prog_13_method_92_code 41 = .ok (.i2l, 1) := by decide +kernel
theorem d_X11_spill_42 : decode prog_13_method_92_code 42 = .ok (.invokestatic 193, 3) := by decide +kernel
theorem d_X11_spill_45 : decode prog_13_method_92_code 45 = .ok (.ifCond .ne 6, 3) := by decide +kernel
theorem d_X11_spill_48 : decode prog_13_method_92_code 48 = .ok (.bipush (-12), 2) := by decide +kernel
theorem d_X11_spill_50 : decode prog_13_method_92_code 50 = .ok (.ireturn, 1) := by decide +kernel
theorem d_X11_spill_51 : decode prog_13_method_92_code 51 = .ok (.iconst 0, 1) := by decide +kernel
theorem d_X11_spill_52 : decode prog_13_method_92_code 52 = .ok (.istore 4, 2) := by decide +kernel
theorem d_X11_spill_54 : decode prog_13_method_92_code 54 = .ok (.iload 4, 2) := by decide +kernel
theorem d_X11_spill_56 : decode prog_13_method_92_code 56 = .ok (.bipush 9, 2) := by decide +kernel
theorem d_X11_spill_58 : decode prog_13_method_92_code 58 = .ok (.if_icmp .ge 48, 3) := by decide +kernel
theorem d_X11_spill_61 : decode prog_13_method_92_code 61 = .ok (.iload_n 3, 1) := by decide +kernel
theorem d_X11_spill_62 : decode prog_13_method_92_code 62 = .ok (.iload 4, 2) := by decide +kernel
theorem d_X11_spill_64 : decode prog_13_method_92_code 64 = .ok (.iadd, 1) := by decide +kernel
theorem d_X11_spill_65 : decode prog_13_method_92_code 65 = .ok (.aload_n 0, 1) := by decide +kernel
theorem d_X11_spill_66 : decode prog_13_method_92_code 66 = .ok (.getfield 158, 3) := by decide +kernel
theorem d_X11_spill_69 : decode prog_13_method_92_code 69 = .ok (.iload_n 2, 1) := by decide +kernel
theorem d_X11_spill_70 : decode prog_13_method_92_code 70 = .ok (.iaload, 1) := by decide +kernel
theorem d_X11_spill_71 : decode prog_13_method_92_code 71 = .ok (.if_icmp .ge 35, 3) := by decide +kernel
theorem d_X11_spill_74 : decode prog_13_method_92_code 74 = .ok (.aload_n 0, 1) := by decide +kernel
theorem d_X11_spill_75 : decode prog_13_method_92_code 75 = .ok (.getfield 161, 3) := by decide +kernel
theorem d_X11_spill_78 : decode prog_13_method_92_code 78 = .ok (.bipush 40, 2) := by decide +kernel
theorem d_X11_spill_80 : decode prog_13_method_92_code 80 = .ok (.iload_n 2, 1) := by decide +kernel
theorem d_X11_spill_81 : decode prog_13_method_92_code 81 = .ok (.imul, 1) := by decide +kernel
theorem d_X11_spill_82 : decode prog_13_method_92_code 82 = .ok (.iload_n 3, 1) := by decide +kernel
theorem d_X11_spill_83 : decode prog_13_method_92_code 83 = .ok (.iadd, 1) := by decide +kernel
theorem d_X11_spill_84 : decode prog_13_method_92_code 84 = .ok (.iload 4, 2) := by decide +kernel
theorem d_X11_spill_86 : decode prog_13_method_92_code 86 = .ok (.iadd, 1) := by decide +kernel
theorem d_X11_spill_87 : decode prog_13_method_92_code 87 = .ok (.aload_n 0, 1) := by decide +kernel
theorem d_X11_spill_88 : decode prog_13_method_92_code 88 = .ok (.iload_n 2, 1) := by decide +kernel
theorem d_X11_spill_89 : decode prog_13_method_92_code 89 = .ok (.aload_n 0, 1) := by decide +kernel
theorem d_X11_spill_90 : decode prog_13_method_92_code 90 = .ok (.iload_n 1, 1) := by decide +kernel
theorem d_X11_spill_91 : decode prog_13_method_92_code 91 = .ok (.iload 4, 2) := by decide +kernel
theorem d_X11_spill_93 : decode prog_13_method_92_code 93 = .ok (.invokevirtual 322, 3) := by decide +kernel
theorem d_X11_spill_96 : decode prog_13_method_92_code 96 = .ok (.invokevirtual 477, 3) := by decide +kernel
theorem d_X11_spill_99 : decode prog_13_method_92_code 99 = .ok (.iastore, 1) := by decide +kernel
theorem d_X11_spill_100 : decode prog_13_method_92_code 100 = .ok (.iinc 4 1, 3) := by decide +kernel
theorem d_X11_spill_103 : decode prog_13_method_92_code 103 = .ok (.goto (-49), 3) := by decide +kernel
theorem d_X11_spill_106 : decode prog_13_method_92_code 106 = .ok (.iload 4, 2) := by decide +kernel
theorem d_X11_spill_108 : decode prog_13_method_92_code 108 = .ok (.ireturn, 1) := by decide +kernel
def f_X11_spill_54B (x1 : Int) (x2 : Int) (x3 : Int) (rec_54 : Int → tp_M → Option (Int × tp_M)) (x4 : Int) (M0 : tp_M) : Option (Int × tp_M) :=
  if 9 ≤ x4 then
    some (x4, M0)
  else
    if 0 ≤ x2 ∧ x2 < 4 then
      if (M0 533 x2) ≤ (tp_w (x3 + x4)) then
        some (x4, M0)
      else
        (f_X11_point0 x1 x4 M0).bind fun r13 =>
        (f_X11_lowest x2 r13 M0).bind fun r15 =>
        if 0 ≤ (tp_w ((tp_w ((tp_w (40 * x2)) + x3)) + x4)) ∧ (tp_w ((tp_w ((tp_w (40 * x2)) + x3)) + x4)) < 160 then
          tp_mp (tp_up M0 534 (tp_w ((tp_w ((tp_w (40 * x2)) + x3)) + x4)) r15) fun M17 =>
          tp_lt (tp_w (x4 + 1)) fun y18 =>
          rec_54 y18 M17 else none else none
set_option maxHeartbeats 4000000 in
set_option maxRecDepth 100000 in
theorem T_X11_spill_54B (G : tp_G) (x1 : Int) (x2 : Int) (x3 : Int) (rec_54 : Int → tp_M → Option (Int × tp_M)) (hrec_54 : ∀ (x4' : Int) (M' : tp_M), tp_J i_X11_spill (tp_rm 2) G 0 0 o_X11_spill tp_NC (tp_st M') 0 0 [some (.inr (.inr 483)), some (.inl x1), some (.inl x2), some (.inl x3), some (.inl (x4'))] 54 [] (rec_54 x4' M')) (x4 : Int) (M0 : tp_M) : tp_J i_X11_spill (tp_rm 2) G 0 0 o_X11_spill tp_NC (tp_st M0) 0 0 [some (.inr (.inr 483)), some (.inl x1), some (.inl x2), some (.inl x3), some (.inl x4)] 54 [] (f_X11_spill_54B x1 x2 x3 rec_54 x4 M0) := by
  unfold f_X11_spill_54B
  refine j_iload d_X11_spill_54 rfl ?_
  refine j_bipush ⟨by decide, by decide⟩ (by decide +kernel) d_X11_spill_56 ?_
  refine j_icmp_ge (tgt := 106) d_X11_spill_58 (by decide) (fun h11 => ?_) (fun h11 => ?_)
  · refine j_iload d_X11_spill_106 rfl ?_
    exact j_iret d_X11_spill_108 rfl rfl ⟨rfl, rfl⟩
  · refine j_iload_n rfl d_X11_spill_61 rfl ?_
    refine j_iload d_X11_spill_62 rfl ?_
    refine j_iadd d_X11_spill_64 ?_
    refine j_aload_n rfl d_X11_spill_65 rfl ?_
    refine j_getr fl_Model_158 tg_483 rv_483_65 d_X11_spill_66 ?_
    refine j_iload_n rfl d_X11_spill_69 rfl ?_
    refine j_iald tg_533 al_533 d_X11_spill_70 ?_
    refine j_icmp_ge (tgt := 106) d_X11_spill_71 (by decide) (fun h12 => ?_) (fun h12 => ?_)
    · refine j_iload d_X11_spill_106 rfl ?_
      exact j_iret d_X11_spill_108 rfl rfl ⟨rfl, rfl⟩
    · refine j_aload_n rfl d_X11_spill_74 rfl ?_
      refine j_getr fl_Model_161 tg_483 rv_483_66 d_X11_spill_75 ?_
      refine j_bipush ⟨by decide, by decide⟩ (by decide +kernel) d_X11_spill_78 ?_
      refine j_iload_n rfl d_X11_spill_80 rfl ?_
      refine j_imul d_X11_spill_81 ?_
      refine j_iload_n rfl d_X11_spill_82 rfl ?_
      refine j_iadd d_X11_spill_83 ?_
      refine j_iload d_X11_spill_84 rfl ?_
      refine j_iadd d_X11_spill_86 ?_
      refine j_aload_n rfl d_X11_spill_87 rfl ?_
      refine j_iload_n rfl d_X11_spill_88 rfl ?_
      refine j_aload_n rfl d_X11_spill_89 rfl ?_
      refine j_iload_n rfl d_X11_spill_90 rfl ?_
      refine j_iload d_X11_spill_91 rfl ?_
      refine j_bind (fun r13 h14 => ?_)
      refine j_callV (y := y_X11_point0) (I' := i_X11_point0) (avs := [.inl x1, .inl x4]) (c := 483) (st := [.inl x2, .inr (.inr 483), .inl (tp_w ((tp_w ((tp_w (40 * x2)) + x3)) + x4)), .inr (.inr 534)]) (c_X11_point0 G x1 x4 M0 r13 h14) cs_Model_322 wd_1448 wd_1450 ws_73 tg_483 rfl rfl rfl (Nat.le_of_ble_eq_true rfl) ⟨rfl, rfl⟩ ⟨by decide, by decide⟩ ⟨by decide, by decide⟩ d_X11_spill_93 ?_
      refine j_bind (fun r15 h16 => ?_)
      refine j_callV (y := y_X11_lowest) (I' := i_X11_lowest) (avs := [.inl x2, .inl r13]) (c := 483) (st := [.inl (tp_w ((tp_w ((tp_w (40 * x2)) + x3)) + x4)), .inr (.inr 534)]) (c_X11_lowest G x2 r13 M0 r15 h16) cs_Model_477 wd_1607 wd_1609 ws_93 tg_483 rfl rfl rfl (Nat.le_of_ble_eq_true rfl) ⟨rfl, rfl⟩ ⟨by decide, by decide⟩ ⟨by decide, by decide⟩ d_X11_spill_96 ?_
      refine j_iast tg_534 al_534 d_X11_spill_99 (fun M17 hM17 => ?_)
      refine j_iincN (lv' := fun y18 => [some (.inr (.inr 483)), some (.inl x1), some (.inl x2), some (.inl x3), some (.inl y18)]) d_X11_spill_100 rfl (Nat.le_of_ble_eq_true rfl) (fun _ => rfl) (fun y18 hy18 => ?_)
      refine j_goto (tgt := 54) d_X11_spill_103 (by decide) ?_
      exact j_wk [true, true, true, true, true] rfl rfl (hrec_54 y18 M17)
def f_X11_spill_54 (x1 : Int) (x2 : Int) (x3 : Int) (x4 : Int) (M0 : tp_M) : Option (Int × tp_M) := tp_lp (σ := Int × tp_M) (fun rec_ u => f_X11_spill_54B x1 x2 x3 (fun x4' M0' => rec_ (x4', M0')) u.1 u.2) tp_N (x4, M0)
set_option maxHeartbeats 4000000 in
set_option maxRecDepth 100000 in
theorem T_X11_spill_54 (G : tp_G) (x1 : Int) (x2 : Int) (x3 : Int) (x4 : Int) (M0 : tp_M) : tp_J i_X11_spill (tp_rm 2) G 0 0 o_X11_spill tp_NC (tp_st M0) 0 0 [some (.inr (.inr 483)), some (.inl x1), some (.inl x2), some (.inl x3), some (.inl x4)] 54 [] (f_X11_spill_54 x1 x2 x3 x4 M0) := by
  unfold f_X11_spill_54
  exact j_lp (σ := Int × tp_M) (n' := fun _ => tp_NC) (g' := fun u => tp_st u.2) (k' := fun _ => 0) (q' := fun _ => 0) (lv' := fun u => [some (.inr (.inr 483)), some (.inl x1), some (.inl x2), some (.inl x3), some (.inl u.1)]) (fun rec_ hrec u => T_X11_spill_54B G x1 x2 x3 (fun x4' M0' => rec_ (x4', M0')) (fun x4' M0' => hrec (x4', M0')) u.1 u.2) tp_N (x4, M0)
def f_X11_spill (a0 : Int) (a1 : Int) (a2 : Int) (M0 : tp_M) : Option (Int × tp_M) :=
  (f_X11_isSheet a1 M0).bind fun r1 =>
  if ¬ r1 = 0 then
    (f_X11_isKnot a0 M0).bind fun r4 =>
    if ¬ r4 = 0 then
      if 0 ≤ a1 ∧ a1 < 4 then
        if 0 ≤ (M0 532 a1) then
          if 0 ≤ a1 ∧ a1 < 4 then
            (f_X11_in a2 0 (M0 533 a1) M0).bind fun r8 =>
            if ¬ r8 = 0 then
              f_X11_spill_54 a0 a1 a2 0 M0
            else
              some ((-12), M0) else none
        else
          some ((-11), M0) else none
    else
      some ((-2), M0)
  else
    some ((-1), M0)
set_option maxHeartbeats 4000000 in
set_option maxRecDepth 100000 in
theorem T_X11_spill (G : tp_G) (a0 : Int) (a1 : Int) (a2 : Int) (M0 : tp_M) : tp_J i_X11_spill (tp_rm 2) G 0 0 o_X11_spill tp_NC (tp_st M0) 0 0 [some (.inr (.inr 483)), some (.inl a0), some (.inl a1), some (.inl a2), none] 0 [] (f_X11_spill a0 a1 a2 M0) := by
  unfold f_X11_spill
  refine j_iload_n rfl d_X11_spill_0 rfl ?_
  refine j_bind (fun r1 h2 => ?_)
  refine j_callS (y := y_X11_isSheet) (I' := i_X11_isSheet) (avs := [.inl a1]) (st := []) (c_X11_isSheet G a1 M0 r1 h2) cs_Model_468 wd_1580 wd_1581 rfl rfl (Nat.le_of_ble_eq_true rfl) ⟨rfl, rfl⟩ ⟨by decide, by decide⟩ ⟨by decide, by decide⟩ d_X11_spill_1 ?_
  refine j_if_ne (tgt := 9) d_X11_spill_4 (by decide) (fun h3 => ?_) (fun h3 => ?_)
  · refine j_aload_n rfl d_X11_spill_9 rfl ?_
    refine j_iload_n rfl d_X11_spill_10 rfl ?_
    refine j_bind (fun r4 h5 => ?_)
    refine j_callV (y := y_X11_isKnot) (I' := i_X11_isKnot) (avs := [.inl a0]) (c := 483) (st := []) (c_X11_isKnot G a0 M0 r4 h5) cs_Model_424 wd_1517 wd_1519 ws_87 tg_483 rfl rfl rfl (Nat.le_of_ble_eq_true rfl) ⟨rfl, rfl⟩ ⟨by decide, by decide⟩ ⟨by decide, by decide⟩ d_X11_spill_11 ?_
    refine j_if_ne (tgt := 20) d_X11_spill_14 (by decide) (fun h6 => ?_) (fun h6 => ?_)
    · refine j_aload_n rfl d_X11_spill_20 rfl ?_
      refine j_getr fl_Model_155 tg_483 rv_483_64 d_X11_spill_21 ?_
      refine j_iload_n rfl d_X11_spill_24 rfl ?_
      refine j_iald tg_532 al_532 d_X11_spill_25 ?_
      refine j_if_ge (tgt := 32) d_X11_spill_26 (by decide) (fun h7 => ?_) (fun h7 => ?_)
      · refine j_iload_n rfl d_X11_spill_32 rfl ?_
        refine j_i2l d_X11_spill_33 ?_
        refine j_lconst (x := 0) ⟨by decide, by decide⟩ (by decide +kernel) d_X11_spill_34 ?_
        refine j_aload_n rfl d_X11_spill_35 rfl ?_
        refine j_getr fl_Model_158 tg_483 rv_483_65 d_X11_spill_36 ?_
        refine j_iload_n rfl d_X11_spill_39 rfl ?_
        refine j_iald tg_533 al_533 d_X11_spill_40 ?_
        refine j_i2l d_X11_spill_41 ?_
        refine j_bind (fun r8 h9 => ?_)
        refine j_callS (y := y_X11_in) (I' := i_X11_in) (avs := [.inr (.inl a2), .inr (.inl 0), .inr (.inl (M0 533 a1))]) (st := []) (c_X11_in G a2 0 (M0 533 a1) M0 r8 h9) cs_Model_193 wd_1239 wd_1240 rfl rfl (Nat.le_of_ble_eq_true rfl) ⟨rfl, rfl⟩ ⟨by decide, by decide⟩ ⟨by decide, by decide⟩ d_X11_spill_42 ?_
        refine j_if_ne (tgt := 51) d_X11_spill_45 (by decide) (fun h10 => ?_) (fun h10 => ?_)
        · refine j_iconst ⟨by decide, by decide⟩ d_X11_spill_51 ?_
          refine j_istore (lv' := [some (.inr (.inr 483)), some (.inl a0), some (.inl a1), some (.inl a2), some (.inl 0)]) d_X11_spill_52 (Nat.le_of_ble_eq_true rfl) rfl ?_
          exact j_wk [true, true, true, true, true] rfl rfl (T_X11_spill_54 G a0 a1 a2 0 M0)
        · refine j_bipush ⟨by decide, by decide⟩ (by decide +kernel) d_X11_spill_48 ?_
          exact j_iret d_X11_spill_50 rfl rfl ⟨rfl, rfl⟩
      · refine j_bipush ⟨by decide, by decide⟩ (by decide +kernel) d_X11_spill_29 ?_
        exact j_iret d_X11_spill_31 rfl rfl ⟨rfl, rfl⟩
    · refine j_bipush ⟨by decide, by decide⟩ (by decide +kernel) d_X11_spill_17 ?_
      exact j_iret d_X11_spill_19 rfl rfl ⟨rfl, rfl⟩
  · refine j_iconst ⟨by decide, by decide⟩ d_X11_spill_7 ?_
    exact j_iret d_X11_spill_8 rfl rfl ⟨rfl, rfl⟩
set_option maxHeartbeats 4000000 in
set_option maxRecDepth 100000 in
theorem c_X11_spill (G : tp_G) (a0 : Int) (a1 : Int) (a2 : Int) (M0 : tp_M) (r : Int × tp_M) (h : f_X11_spill a0 a1 a2 M0 = some r) (l : Launch) : Met l y_X11_spill (tp_ws y_X11_spill i_X11_spill) (tp_rm 2) (tp_Pc G [.inr (.inr 483), .inl a0, .inl a1, .inl a2] tp_NC (tp_st M0)) (tp_Q G (o_X11_spill r)) 0 0 (tp_A G) :=
  tp_met (I := i_X11_spill) (y := y_X11_spill) (by decide +kernel) (Eq.refl "TypesAtPrimeModel") (Eq.refl "spill") (lv := [some (.inr (.inr 483)), some (.inl a0), some (.inl a1), some (.inl a2), none]) rfl (Nat.le_of_ble_eq_true rfl) (T_X11_spill G a0 a1 a2 M0) h l
def y_X11_sheet : MethodName := ⟨"TypesAtPrimeModel", "sheet", "(III)I"⟩
abbrev i_X11_sheet : tp_I := (prog_13_method_93_code, "TypesAtPrimeModel", (some .int), 5, "sheet")
abbrev o_X11_sheet : Int × tp_M → tp_O := fun r => (some (.inl r.1), tp_NC, tp_st r.2)
theorem d_X11_sheet_0 : decode prog_13_method_93_code 0 = .ok (.iload_n 1, 1) := by decide +kernel
theorem d_X11_sheet_1 : decode prog_13_method_93_code 1 = .ok (.invokestatic 468, 3) := by decide +kernel
theorem d_X11_sheet_4 : decode prog_13_method_93_code 4 = .ok (.ifCond .eq 25, 3) := by decide +kernel
theorem d_X11_sheet_7 : decode prog_13_method_93_code 7 = .ok (.iload_n 2, 1) := by decide +kernel
theorem d_X11_sheet_8 : decode prog_13_method_93_code 8 = .ok (.i2l, 1) := by decide +kernel
theorem d_X11_sheet_9 : decode prog_13_method_93_code 9 = .ok (.ldc2_w 251, 3) := by decide +kernel
theorem d_X11_sheet_12 : decode prog_13_method_93_code 12 = .ok (.lconst 1, 1) := by decide +kernel
theorem d_X11_sheet_13 : decode prog_13_method_93_code 13 = .ok (.invokestatic 193, 3) := by decide +kernel
theorem d_X11_sheet_16 : decode prog_13_method_93_code 16 = .ok (.ifCond .eq 13, 3) := by decide +kernel
theorem d_X11_sheet_19 : decode prog_13_method_93_code 19 = .ok (.iload_n 2, 1) := by decide +kernel
theorem d_X11_sheet_20 : decode prog_13_method_93_code 20 = .ok (.ifCond .lt 11, 3) := by decide +kernel
theorem d_X11_sheet_23 : decode prog_13_method_93_code 23 = .ok (.iload_n 3, 1) := by decide +kernel
theorem d_X11_sheet_24 : decode prog_13_method_93_code 24 = .ok (.bipush 40, 2) := by decide +kernel
theorem d_X11_sheet_26 : decode prog_13_method_93_code 26 = .ok (.if_icmp .le 5, 3) := by decide +kernel
theorem d_X11_sheet_29 : decode prog_13_method_93_code 29 = .ok (.iconst (-1), 1) := by decide +kernel
theorem d_X11_sheet_30 : decode prog_13_method_93_code 30 = .ok (.ireturn, 1) := by decide +kernel
theorem d_X11_sheet_31 : decode prog_13_method_93_code 31 = .ok (.iload_n 2, 1) := by decide +kernel
theorem d_X11_sheet_32 : decode prog_13_method_93_code 32 = .ok (.ifCond .lt 10, 3) := by decide +kernel
theorem d_X11_sheet_35 : decode prog_13_method_93_code 35 = .ok (.iload_n 3, 1) := by decide +kernel
theorem d_X11_sheet_36 : decode prog_13_method_93_code 36 = .ok (.ifCond .ge 6, 3) := by decide +kernel
theorem d_X11_sheet_39 : decode prog_13_method_93_code 39 = .ok (.bipush (-14), 2) := by decide +kernel
theorem d_X11_sheet_41 : decode prog_13_method_93_code 41 = .ok (.ireturn, 1) := by decide +kernel
theorem d_X11_sheet_42 : decode prog_13_method_93_code 42 = .ok (.aload_n 0, 1) := by decide +kernel
theorem d_X11_sheet_43 : decode prog_13_method_93_code 43 = .ok (.getfield 155, 3) := by decide +kernel
theorem d_X11_sheet_46 : decode prog_13_method_93_code 46 = .ok (.iload_n 1, 1) := by decide +kernel
theorem d_X11_sheet_47 : decode prog_13_method_93_code 47 = .ok (.iload_n 2, 1) := by decide +kernel
theorem d_X11_sheet_48 : decode prog_13_method_93_code 48 = .ok (.iastore, 1) := by decide +kernel
theorem d_X11_sheet_49 : decode prog_13_method_93_code 49 = .ok (.aload_n 0, 1) := by decide +kernel
theorem d_X11_sheet_50 : decode prog_13_method_93_code 50 = .ok (.getfield 158, 3) := by decide +kernel
theorem d_X11_sheet_53 : decode prog_13_method_93_code 53 = .ok (.iload_n 1, 1) := by decide +kernel
theorem d_X11_sheet_54 : decode prog_13_method_93_code 54 = .ok (.iload_n 2, 1) := by decide +kernel
theorem d_X11_sheet_55 : decode prog_13_method_93_code 55 = .ok (.ifCond .ge 7, 3) := by decide +kernel
theorem d_X11_sheet_58 : decode prog_13_method_93_code 58 = .ok (.iconst 0, 1) := by decide +kernel
theorem d_X11_sheet_59 : decode prog_13_method_93_code 59 = .ok (.goto 4, 3) := by decide +kernel
theorem d_X11_sheet_62 : decode prog_13_method_93_code 62 = .ok (.iload_n 3, 1) := by decide +kernel
theorem d_X11_sheet_63 : decode prog_13_method_93_code 63 = .ok (.iastore, 1) := by decide +kernel
theorem d_X11_sheet_64 : decode prog_13_method_93_code 64 = .ok (.iconst 0, 1) := by decide +kernel
theorem d_X11_sheet_65 : decode prog_13_method_93_code 65 = .ok (.istore 4, 2) := by decide +kernel
theorem d_X11_sheet_67 : decode prog_13_method_93_code 67 = .ok (.iload 4, 2) := by decide +kernel
theorem d_X11_sheet_69 : decode prog_13_method_93_code 69 = .ok (.bipush 40, 2) := by decide +kernel
theorem d_X11_sheet_71 : decode prog_13_method_93_code 71 = .ok (.if_icmp .ge 22, 3) := by decide +kernel
theorem d_X11_sheet_74 : decode prog_13_method_93_code 74 = .ok (.aload_n 0, 1) := by decide +kernel
theorem d_X11_sheet_75 : decode prog_13_method_93_code 75 = .ok (.getfield 161, 3) := by decide +kernel
theorem d_X11_sheet_78 : decode prog_13_method_93_code 78 = .ok (.bipush 40, 2) := by decide +kernel
theorem d_X11_sheet_80 : decode prog_13_method_93_code 80 = .ok (.iload_n 1, 1) := by decide +kernel
theorem d_X11_sheet_81 : decode prog_13_method_93_code 81 = .ok (.imul, 1) := by decide +kernel
theorem d_X11_sheet_82 : decode prog_13_method_93_code 82 = .ok (.iload 4, 2) := by decide +kernel
theorem d_X11_sheet_84 : decode prog_13_method_93_code 84 = .ok (.iadd, 1) := by decide +kernel
theorem d_X11_sheet_85 : decode prog_13_method_93_code 85 = .ok (.iconst 0, 1) := by decide +kernel
theorem d_X11_sheet_86 : decode prog_13_method_93_code 86 = .ok (.iastore, 1) := by decide +kernel
theorem d_X11_sheet_87 : decode prog_13_method_93_code 87 = .ok (.iinc 4 1, 3) := by decide +kernel
theorem d_X11_sheet_90 : decode prog_13_method_93_code 90 = .ok (.goto (-23), 3) := by decide +kernel
theorem d_X11_sheet_93 : decode prog_13_method_93_code 93 = .ok (.iconst 1, 1) := by decide +kernel
theorem d_X11_sheet_94 : decode prog_13_method_93_code 94 = .ok (.ireturn, 1) := by decide +kernel
def f_X11_sheet_67B (x1 : Int) (rec_67 : Int → tp_M → Option (Int × tp_M)) (x4 : Int) (M0 : tp_M) : Option (Int × tp_M) :=
  if 40 ≤ x4 then
    some (1, M0)
  else
    if 0 ≤ (tp_w ((tp_w (40 * x1)) + x4)) ∧ (tp_w ((tp_w (40 * x1)) + x4)) < 160 then
      tp_mp (tp_up M0 534 (tp_w ((tp_w (40 * x1)) + x4)) 0) fun M13 =>
      tp_lt (tp_w (x4 + 1)) fun y14 =>
      rec_67 y14 M13 else none
set_option maxHeartbeats 4000000 in
set_option maxRecDepth 100000 in
theorem T_X11_sheet_67B (G : tp_G) (x1 : Int) (rec_67 : Int → tp_M → Option (Int × tp_M)) (hrec_67 : ∀ (x4' : Int) (M' : tp_M), tp_J i_X11_sheet (tp_rm 1) G 0 0 o_X11_sheet tp_NC (tp_st M') 0 0 [some (.inr (.inr 483)), some (.inl x1), none, none, some (.inl (x4'))] 67 [] (rec_67 x4' M')) (x4 : Int) (M0 : tp_M) : tp_J i_X11_sheet (tp_rm 1) G 0 0 o_X11_sheet tp_NC (tp_st M0) 0 0 [some (.inr (.inr 483)), some (.inl x1), none, none, some (.inl x4)] 67 [] (f_X11_sheet_67B x1 rec_67 x4 M0) := by
  unfold f_X11_sheet_67B
  refine j_iload d_X11_sheet_67 rfl ?_
  refine j_bipush ⟨by decide, by decide⟩ (by decide +kernel) d_X11_sheet_69 ?_
  refine j_icmp_ge (tgt := 93) d_X11_sheet_71 (by decide) (fun h12 => ?_) (fun h12 => ?_)
  · refine j_iconst ⟨by decide, by decide⟩ d_X11_sheet_93 ?_
    exact j_iret d_X11_sheet_94 rfl rfl ⟨rfl, rfl⟩
  · refine j_aload_n rfl d_X11_sheet_74 rfl ?_
    refine j_getr fl_Model_161 tg_483 rv_483_66 d_X11_sheet_75 ?_
    refine j_bipush ⟨by decide, by decide⟩ (by decide +kernel) d_X11_sheet_78 ?_
    refine j_iload_n rfl d_X11_sheet_80 rfl ?_
    refine j_imul d_X11_sheet_81 ?_
    refine j_iload d_X11_sheet_82 rfl ?_
    refine j_iadd d_X11_sheet_84 ?_
    refine j_iconst ⟨by decide, by decide⟩ d_X11_sheet_85 ?_
    refine j_iast tg_534 al_534 d_X11_sheet_86 (fun M13 hM13 => ?_)
    refine j_iincN (lv' := fun y14 => [some (.inr (.inr 483)), some (.inl x1), none, none, some (.inl y14)]) d_X11_sheet_87 rfl (Nat.le_of_ble_eq_true rfl) (fun _ => rfl) (fun y14 hy14 => ?_)
    refine j_goto (tgt := 67) d_X11_sheet_90 (by decide) ?_
    exact j_wk [true, true, false, false, true] rfl rfl (hrec_67 y14 M13)
def f_X11_sheet_67 (x1 : Int) (x4 : Int) (M0 : tp_M) : Option (Int × tp_M) := tp_lp (σ := Int × tp_M) (fun rec_ u => f_X11_sheet_67B x1 (fun x4' M0' => rec_ (x4', M0')) u.1 u.2) tp_N (x4, M0)
set_option maxHeartbeats 4000000 in
set_option maxRecDepth 100000 in
theorem T_X11_sheet_67 (G : tp_G) (x1 : Int) (x4 : Int) (M0 : tp_M) : tp_J i_X11_sheet (tp_rm 1) G 0 0 o_X11_sheet tp_NC (tp_st M0) 0 0 [some (.inr (.inr 483)), some (.inl x1), none, none, some (.inl x4)] 67 [] (f_X11_sheet_67 x1 x4 M0) := by
  unfold f_X11_sheet_67
  exact j_lp (σ := Int × tp_M) (n' := fun _ => tp_NC) (g' := fun u => tp_st u.2) (k' := fun _ => 0) (q' := fun _ => 0) (lv' := fun u => [some (.inr (.inr 483)), some (.inl x1), none, none, some (.inl u.1)]) (fun rec_ hrec u => T_X11_sheet_67B G x1 (fun x4' M0' => rec_ (x4', M0')) (fun x4' M0' => hrec (x4', M0')) u.1 u.2) tp_N (x4, M0)
def f_X11_sheet_63 (x1 : Int) (s0 : Int) (s1 : Int) (M0 : tp_M) : Option (Int × tp_M) :=
  if 0 ≤ s1 ∧ s1 < 4 then
    tp_mp (tp_up M0 533 s1 s0) fun M11 =>
    f_X11_sheet_67 x1 0 M11 else none
set_option maxHeartbeats 4000000 in
set_option maxRecDepth 100000 in
theorem T_X11_sheet_63 (G : tp_G) (x1 : Int) (s0 : Int) (s1 : Int) (M0 : tp_M) : tp_J i_X11_sheet (tp_rm 1) G 0 0 o_X11_sheet tp_NC (tp_st M0) 0 0 [some (.inr (.inr 483)), some (.inl x1), none, none, none] 63 [.inl s0, .inl s1, .inr (.inr 533)] (f_X11_sheet_63 x1 s0 s1 M0) := by
  unfold f_X11_sheet_63
  refine j_iast tg_533 al_533 d_X11_sheet_63 (fun M11 hM11 => ?_)
  refine j_iconst ⟨by decide, by decide⟩ d_X11_sheet_64 ?_
  refine j_istore (lv' := [some (.inr (.inr 483)), some (.inl x1), none, none, some (.inl 0)]) d_X11_sheet_65 (Nat.le_of_ble_eq_true rfl) rfl ?_
  exact j_wk [true, true, false, false, true] rfl rfl (T_X11_sheet_67 G x1 0 M11)
def f_X11_sheet_42 (x1 : Int) (x2 : Int) (x3 : Int) (M0 : tp_M) : Option (Int × tp_M) :=
  if 0 ≤ x1 ∧ x1 < 4 then
    tp_mp (tp_up M0 532 x1 x2) fun M9 =>
    if 0 ≤ x2 then
      f_X11_sheet_63 x1 x3 x1 M9
    else
      f_X11_sheet_63 x1 0 x1 M9 else none
set_option maxHeartbeats 4000000 in
set_option maxRecDepth 100000 in
theorem T_X11_sheet_42 (G : tp_G) (x1 : Int) (x2 : Int) (x3 : Int) (M0 : tp_M) : tp_J i_X11_sheet (tp_rm 1) G 0 0 o_X11_sheet tp_NC (tp_st M0) 0 0 [some (.inr (.inr 483)), some (.inl x1), some (.inl x2), some (.inl x3), none] 42 [] (f_X11_sheet_42 x1 x2 x3 M0) := by
  unfold f_X11_sheet_42
  refine j_aload_n rfl d_X11_sheet_42 rfl ?_
  refine j_getr fl_Model_155 tg_483 rv_483_64 d_X11_sheet_43 ?_
  refine j_iload_n rfl d_X11_sheet_46 rfl ?_
  refine j_iload_n rfl d_X11_sheet_47 rfl ?_
  refine j_iast tg_532 al_532 d_X11_sheet_48 (fun M9 hM9 => ?_)
  refine j_aload_n rfl d_X11_sheet_49 rfl ?_
  refine j_getr fl_Model_158 tg_483 rv_483_65 d_X11_sheet_50 ?_
  refine j_iload_n rfl d_X11_sheet_53 rfl ?_
  refine j_iload_n rfl d_X11_sheet_54 rfl ?_
  refine j_if_ge (tgt := 62) d_X11_sheet_55 (by decide) (fun h10 => ?_) (fun h10 => ?_)
  · refine j_iload_n rfl d_X11_sheet_62 rfl ?_
    exact j_wk [true, true, false, false, false] rfl rfl (T_X11_sheet_63 G x1 x3 x1 M9)
  · refine j_iconst ⟨by decide, by decide⟩ d_X11_sheet_58 ?_
    refine j_goto (tgt := 63) d_X11_sheet_59 (by decide) ?_
    exact j_wk [true, true, false, false, false] rfl rfl (T_X11_sheet_63 G x1 0 x1 M9)
def f_X11_sheet_31 (x1 : Int) (x2 : Int) (x3 : Int) (M0 : tp_M) : Option (Int × tp_M) :=
  if x2 < 0 then
    f_X11_sheet_42 x1 x2 x3 M0
  else
    if 0 ≤ x3 then
      f_X11_sheet_42 x1 x2 x3 M0
    else
      some ((-14), M0)
set_option maxHeartbeats 4000000 in
set_option maxRecDepth 100000 in
theorem T_X11_sheet_31 (G : tp_G) (x1 : Int) (x2 : Int) (x3 : Int) (M0 : tp_M) : tp_J i_X11_sheet (tp_rm 1) G 0 0 o_X11_sheet tp_NC (tp_st M0) 0 0 [some (.inr (.inr 483)), some (.inl x1), some (.inl x2), some (.inl x3), none] 31 [] (f_X11_sheet_31 x1 x2 x3 M0) := by
  unfold f_X11_sheet_31
  refine j_iload_n rfl d_X11_sheet_31 rfl ?_
  refine j_if_lt (tgt := 42) d_X11_sheet_32 (by decide) (fun h8 => ?_) (fun h8 => ?_)
  · exact j_wk [true, true, true, true, false] rfl rfl (T_X11_sheet_42 G x1 x2 x3 M0)
  · refine j_iload_n rfl d_X11_sheet_35 rfl ?_
    refine j_if_ge (tgt := 42) d_X11_sheet_36 (by decide) (fun h15 => ?_) (fun h15 => ?_)
    · exact j_wk [true, true, true, true, false] rfl rfl (T_X11_sheet_42 G x1 x2 x3 M0)
    · refine j_bipush ⟨by decide, by decide⟩ (by decide +kernel) d_X11_sheet_39 ?_
      exact j_iret d_X11_sheet_41 rfl rfl ⟨rfl, rfl⟩
def f_X11_sheet (a0 : Int) (a1 : Int) (a2 : Int) (M0 : tp_M) : Option (Int × tp_M) :=
  (f_X11_isSheet a0 M0).bind fun r1 =>
  if r1 = 0 then
    some ((-1), M0)
  else
    (f_X11_in a1 (-1) 1 M0).bind fun r4 =>
    if r4 = 0 then
      some ((-1), M0)
    else
      if a1 < 0 then
        f_X11_sheet_31 a0 a1 a2 M0
      else
        if a2 ≤ 40 then
          f_X11_sheet_31 a0 a1 a2 M0
        else
          some ((-1), M0)
set_option maxHeartbeats 4000000 in
set_option maxRecDepth 100000 in
theorem T_X11_sheet (G : tp_G) (a0 : Int) (a1 : Int) (a2 : Int) (M0 : tp_M) : tp_J i_X11_sheet (tp_rm 1) G 0 0 o_X11_sheet tp_NC (tp_st M0) 0 0 [some (.inr (.inr 483)), some (.inl a0), some (.inl a1), some (.inl a2), none] 0 [] (f_X11_sheet a0 a1 a2 M0) := by
  unfold f_X11_sheet
  refine j_iload_n rfl d_X11_sheet_0 rfl ?_
  refine j_bind (fun r1 h2 => ?_)
  refine j_callS (y := y_X11_isSheet) (I' := i_X11_isSheet) (avs := [.inl a0]) (st := []) (c_X11_isSheet G a0 M0 r1 h2) cs_Model_468 wd_1580 wd_1581 rfl rfl (Nat.le_of_ble_eq_true rfl) ⟨rfl, rfl⟩ ⟨by decide, by decide⟩ ⟨by decide, by decide⟩ d_X11_sheet_1 ?_
  refine j_if_eq (tgt := 29) d_X11_sheet_4 (by decide) (fun h3 => ?_) (fun h3 => ?_)
  · refine j_iconst ⟨by decide, by decide⟩ d_X11_sheet_29 ?_
    exact j_iret d_X11_sheet_30 rfl rfl ⟨rfl, rfl⟩
  · refine j_iload_n rfl d_X11_sheet_7 rfl ?_
    refine j_i2l d_X11_sheet_8 ?_
    refine j_ldc2 (x := (-1)) ⟨by decide, by decide⟩ (show Cond.constantLong _ _ _ ∈ lw_tbl from wd_1333) d_X11_sheet_9 ?_
    refine j_lconst (x := 1) ⟨by decide, by decide⟩ (by decide +kernel) d_X11_sheet_12 ?_
    refine j_bind (fun r4 h5 => ?_)
    refine j_callS (y := y_X11_in) (I' := i_X11_in) (avs := [.inr (.inl a1), .inr (.inl (-1)), .inr (.inl 1)]) (st := []) (c_X11_in G a1 (-1) 1 M0 r4 h5) cs_Model_193 wd_1239 wd_1240 rfl rfl (Nat.le_of_ble_eq_true rfl) ⟨rfl, rfl⟩ ⟨by decide, by decide⟩ ⟨by decide, by decide⟩ d_X11_sheet_13 ?_
    refine j_if_eq (tgt := 29) d_X11_sheet_16 (by decide) (fun h6 => ?_) (fun h6 => ?_)
    · refine j_iconst ⟨by decide, by decide⟩ d_X11_sheet_29 ?_
      exact j_iret d_X11_sheet_30 rfl rfl ⟨rfl, rfl⟩
    · refine j_iload_n rfl d_X11_sheet_19 rfl ?_
      refine j_if_lt (tgt := 31) d_X11_sheet_20 (by decide) (fun h7 => ?_) (fun h7 => ?_)
      · exact j_wk [true, true, true, true, false] rfl rfl (T_X11_sheet_31 G a0 a1 a2 M0)
      · refine j_iload_n rfl d_X11_sheet_23 rfl ?_
        refine j_bipush ⟨by decide, by decide⟩ (by decide +kernel) d_X11_sheet_24 ?_
        refine j_icmp_le (tgt := 31) d_X11_sheet_26 (by decide) (fun h16 => ?_) (fun h16 => ?_)
        · exact j_wk [true, true, true, true, false] rfl rfl (T_X11_sheet_31 G a0 a1 a2 M0)
        · refine j_iconst ⟨by decide, by decide⟩ d_X11_sheet_29 ?_
          exact j_iret d_X11_sheet_30 rfl rfl ⟨rfl, rfl⟩
set_option maxHeartbeats 4000000 in
set_option maxRecDepth 100000 in
theorem c_X11_sheet (G : tp_G) (a0 : Int) (a1 : Int) (a2 : Int) (M0 : tp_M) (r : Int × tp_M) (h : f_X11_sheet a0 a1 a2 M0 = some r) (l : Launch) : Met l y_X11_sheet (tp_ws y_X11_sheet i_X11_sheet) (tp_rm 1) (tp_Pc G [.inr (.inr 483), .inl a0, .inl a1, .inl a2] tp_NC (tp_st M0)) (tp_Q G (o_X11_sheet r)) 0 0 (tp_A G) :=
  tp_met (I := i_X11_sheet) (y := y_X11_sheet) (by decide +kernel) (Eq.refl "TypesAtPrimeModel") (Eq.refl "sheet") (lv := [some (.inr (.inr 483)), some (.inl a0), some (.inl a1), some (.inl a2), none]) rfl (Nat.le_of_ble_eq_true rfl) (T_X11_sheet G a0 a1 a2 M0) h l
