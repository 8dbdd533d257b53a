def y_X11_cell : MethodName := ⟨"TypesAtPrimeModel", "cell", "(III)I"⟩
abbrev i_X11_cell : tp_I := (prog_13_method_94_code, "TypesAtPrimeModel", (some .int), 4, "cell")
abbrev o_X11_cell : Int × tp_M → tp_O := fun r => (some (.inl r.1), tp_NC, tp_st r.2)
theorem d_X11_cell_0 : decode prog_13_method_94_code 0 = .ok (.iload_n 1, 1) := by decide +kernel
theorem d_X11_cell_1 : decode prog_13_method_94_code 1 = .ok (.invokestatic 468, 3) := by decide +kernel
theorem d_X11_cell_4 : decode prog_13_method_94_code 4 = .ok (.ifCond .ne 5, 3) := by decide +kernel
theorem d_X11_cell_7 : decode prog_13_method_94_code 7 = .ok (.iconst (-1), 1) := by decide +kernel
theorem d_X11_cell_8 : decode prog_13_method_94_code 8 = .ok (.ireturn, 1) := by decide +kernel
theorem d_X11_cell_9 : decode prog_13_method_94_code 9 = .ok (.aload_n 0, 1) := by decide +kernel
theorem d_X11_cell_10 : decode prog_13_method_94_code 10 = .ok (.getfield 155, 3) := by decide +kernel
theorem d_X11_cell_13 : decode prog_13_method_94_code 13 = .ok (.iload_n 1, 1) := by decide +kernel
theorem d_X11_cell_14 : decode prog_13_method_94_code 14 = .ok (.iaload, 1) := by decide +kernel
theorem d_X11_cell_15 : decode prog_13_method_94_code 15 = .ok (.ifCond .ge 6, 3) := by decide +kernel
theorem d_X11_cell_18 : decode prog_13_method_94_code 18 = .ok (.bipush (-11), 2) := by decide +kernel
theorem d_X11_cell_20 : decode prog_13_method_94_code 20 = .ok (.ireturn, 1) := by decide +kernel
theorem d_X11_cell_21 : decode prog_13_method_94_code 21 = .ok (.iload_n 2, 1) := by decide +kernel
theorem d_X11_cell_22 : decode prog_13_method_94_code 22 = .ok (.i2l, 1) := by decide +kernel
theorem d_X11_cell_23 : decode prog_13_method_94_code 23 = .ok (.lconst 0, 1) := by decide +kernel
theorem d_X11_cell_24 : decode prog_13_method_94_code 24 = .ok (.aload_n 0, 1) := by decide +kernel
theorem d_X11_cell_25 : decode prog_13_method_94_code 25 = .ok (.getfield 158, 3) := by decide +kernel
theorem d_X11_cell_28 : decode prog_13_method_94_code 28 = .ok (.iload_n 1, 1) := by decide +kernel
theorem d_X11_cell_29 : decode prog_13_method_94_code 29 = .ok (.iaload, 1) := by decide +kernel
theorem d_X11_cell_30 : decode prog_13_method_94_code 30 = .ok (.iconst 1, 1) := by decide +kernel
theorem d_X11_cell_31 : decode prog_13_method_94_code 31 = .ok (.isub, 1) := by decide +kernel
theorem d_X11_cell_32 : decode prog_13_method_94_code 32 = .ok (.i2l, 1) := by decide +kernel
theorem d_X11_cell_33 : decode prog_13_method_94_code 33 = .ok (.invokestatic 193, 3) := by decide +kernel
theorem d_X11_cell_36 : decode prog_13_method_94_code 36 = .ok (.ifCond .ne 6, 3) := by decide +kernel
theorem d_X11_cell_39 : decode prog_13_method_94_code 39 = .ok (.bipush (-12), 2) := by decide +kernel
theorem d_X11_cell_41 : decode prog_13_method_94_code 41 = .ok (.ireturn, 1) := by decide +kernel
theorem d_X11_cell_42 : decode prog_13_method_94_code 42 = .ok (.aload_n 0, 1) := by decide +kernel
theorem d_X11_cell_43 : decode prog_13_method_94_code 43 = .ok (.getfield 161, 3) := by decide +kernel
theorem d_X11_cell_46 : decode prog_13_method_94_code 46 = .ok (.bipush 40, 2) := by decide +kernel
theorem d_X11_cell_48 : decode prog_13_method_94_code 48 = .ok (.iload_n 1, 1) := by decide +kernel
theorem d_X11_cell_49 : decode prog_13_method_94_code 49 = .ok (.imul, 1) := by decide +kernel
theorem d_X11_cell_50 : decode prog_13_method_94_code 50 = .ok (.iload_n 2, 1) := by decide +kernel
theorem d_X11_cell_51 : decode prog_13_method_94_code 51 = .ok (.iadd, 1) := by decide +kernel
theorem d_X11_cell_52 : decode prog_13_method_94_code 52 = .ok (.aload_n 0, 1) := by decide +kernel
theorem d_X11_cell_53 : decode prog_13_method_94_code 53 = .ok (.iload_n 1, 1) := by decide +kernel
theorem d_X11_cell_54 : decode prog_13_method_94_code 54 = .ok (.iload_n 3, 1) := by decide +kernel
theorem d_X11_cell_55 : decode prog_13_method_94_code 55 = .ok (.invokevirtual 477, 3) := by decide +kernel
theorem d_X11_cell_58 : decode prog_13_method_94_code 58 = .ok (.iastore, 1) := by decide +kernel
theorem d_X11_cell_59 : decode prog_13_method_94_code 59 = .ok (.iconst 1, 1) := by decide +kernel
theorem d_X11_cell_60 : decode prog_13_method_94_code 60 = .ok (.ireturn, 1) := by decide +kernel
def f_X11_cell (a0 : Int) (a1 : Int) (a2 : Int) (M0 : tp_M) : Option (Int × tp_M) :=
  (f_X11_isSheet a0 M0).bind fun r1 =>
  if ¬ r1 = 0 then
    if 0 ≤ a0 ∧ a0 < 4 then
      if 0 ≤ (M0 532 a0) then
        if 0 ≤ a0 ∧ a0 < 4 then
          (f_X11_in a1 0 (tp_w ((M0 533 a0) - 1)) M0).bind fun r5 =>
          if ¬ r5 = 0 then
            (f_X11_lowest a0 a2 M0).bind fun r8 =>
            if 0 ≤ (tp_w ((tp_w (40 * a0)) + a1)) ∧ (tp_w ((tp_w (40 * a0)) + a1)) < 160 then
              tp_mp (tp_up M0 534 (tp_w ((tp_w (40 * a0)) + a1)) r8) fun M10 =>
              some (1, M10) else none
          else
            some ((-12), M0) else none
      else
        some ((-11), M0) else none
  else
    some ((-1), M0)
set_option maxHeartbeats 4000000 in
set_option maxRecDepth 100000 in
theorem T_X11_cell (G : tp_G) (a0 : Int) (a1 : Int) (a2 : Int) (M0 : tp_M) : tp_J i_X11_cell (tp_rm 1) G 0 0 o_X11_cell tp_NC (tp_st M0) 0 0 [some (.inr (.inr 483)), some (.inl a0), some (.inl a1), some (.inl a2)] 0 [] (f_X11_cell a0 a1 a2 M0) := by
  unfold f_X11_cell
  refine j_iload_n rfl d_X11_cell_0 rfl ?_
  refine j_bind (fun r1 h2 => ?_)
  refine j_callS (y := y_X11_isSheet) (I' := i_X11_isSheet) (avs := [.inl a0]) (st := []) (c_X11_isSheet G a0 M0 r1 h2) cs_Model_468 wd_1580 wd_1581 rfl rfl (Nat.le_of_ble_eq_true rfl) ⟨rfl, rfl⟩ ⟨by decide, by decide⟩ ⟨by decide, by decide⟩ d_X11_cell_1 ?_
  refine j_if_ne (tgt := 9) d_X11_cell_4 (by decide) (fun h3 => ?_) (fun h3 => ?_)
  · refine j_aload_n rfl d_X11_cell_9 rfl ?_
    refine j_getr fl_Model_155 tg_483 rv_483_64 d_X11_cell_10 ?_
    refine j_iload_n rfl d_X11_cell_13 rfl ?_
    refine j_iald tg_532 al_532 d_X11_cell_14 ?_
    refine j_if_ge (tgt := 21) d_X11_cell_15 (by decide) (fun h4 => ?_) (fun h4 => ?_)
    · refine j_iload_n rfl d_X11_cell_21 rfl ?_
      refine j_i2l d_X11_cell_22 ?_
      refine j_lconst (x := 0) ⟨by decide, by decide⟩ (by decide +kernel) d_X11_cell_23 ?_
      refine j_aload_n rfl d_X11_cell_24 rfl ?_
      refine j_getr fl_Model_158 tg_483 rv_483_65 d_X11_cell_25 ?_
      refine j_iload_n rfl d_X11_cell_28 rfl ?_
      refine j_iald tg_533 al_533 d_X11_cell_29 ?_
      refine j_iconst ⟨by decide, by decide⟩ d_X11_cell_30 ?_
      refine j_isub d_X11_cell_31 ?_
      refine j_i2l d_X11_cell_32 ?_
      refine j_bind (fun r5 h6 => ?_)
      refine j_callS (y := y_X11_in) (I' := i_X11_in) (avs := [.inr (.inl a1), .inr (.inl 0), .inr (.inl (tp_w ((M0 533 a0) - 1)))]) (st := []) (c_X11_in G a1 0 (tp_w ((M0 533 a0) - 1)) M0 r5 h6) cs_Model_193 wd_1239 wd_1240 rfl rfl (Nat.le_of_ble_eq_true rfl) ⟨rfl, rfl⟩ ⟨by decide, by decide⟩ ⟨by decide, by decide⟩ d_X11_cell_33 ?_
      refine j_if_ne (tgt := 42) d_X11_cell_36 (by decide) (fun h7 => ?_) (fun h7 => ?_)
      · refine j_aload_n rfl d_X11_cell_42 rfl ?_
        refine j_getr fl_Model_161 tg_483 rv_483_66 d_X11_cell_43 ?_
        refine j_bipush ⟨by decide, by decide⟩ (by decide +kernel) d_X11_cell_46 ?_
        refine j_iload_n rfl d_X11_cell_48 rfl ?_
        refine j_imul d_X11_cell_49 ?_
        refine j_iload_n rfl d_X11_cell_50 rfl ?_
        refine j_iadd d_X11_cell_51 ?_
        refine j_aload_n rfl d_X11_cell_52 rfl ?_
        refine j_iload_n rfl d_X11_cell_53 rfl ?_
        refine j_iload_n rfl d_X11_cell_54 rfl ?_
        refine j_bind (fun r8 h9 => ?_)
        refine j_callV (y := y_X11_lowest) (I' := i_X11_lowest) (avs := [.inl a0, .inl a2]) (c := 483) (st := [.inl (tp_w ((tp_w (40 * a0)) + a1)), .inr (.inr 534)]) (c_X11_lowest G a0 a2 M0 r8 h9) cs_Model_477 wd_1607 wd_1609 ws_93 tg_483 rfl rfl rfl (Nat.le_of_ble_eq_true rfl) ⟨rfl, rfl⟩ ⟨by decide, by decide⟩ ⟨by decide, by decide⟩ d_X11_cell_55 ?_
        refine j_iast tg_534 al_534 d_X11_cell_58 (fun M10 hM10 => ?_)
        refine j_iconst ⟨by decide, by decide⟩ d_X11_cell_59 ?_
        exact j_iret d_X11_cell_60 rfl rfl ⟨rfl, rfl⟩
      · refine j_bipush ⟨by decide, by decide⟩ (by decide +kernel) d_X11_cell_39 ?_
        exact j_iret d_X11_cell_41 rfl rfl ⟨rfl, rfl⟩
    · refine j_bipush ⟨by decide, by decide⟩ (by decide +kernel) d_X11_cell_18 ?_
      exact j_iret d_X11_cell_20 rfl rfl ⟨rfl, rfl⟩
  · refine j_iconst ⟨by decide, by decide⟩ d_X11_cell_7 ?_
    exact j_iret d_X11_cell_8 rfl rfl ⟨rfl, rfl⟩
set_option maxHeartbeats 4000000 in
set_option maxRecDepth 100000 in
theorem c_X11_cell (G : tp_G) (a0 : Int) (a1 : Int) (a2 : Int) (M0 : tp_M) (r : Int × tp_M) (h : f_X11_cell a0 a1 a2 M0 = some r) (l : Launch) : Met l y_X11_cell (tp_ws y_X11_cell i_X11_cell) (tp_rm 1) (tp_Pc G [.inr (.inr 483), .inl a0, .inl a1, .inl a2] tp_NC (tp_st M0)) (tp_Q G (o_X11_cell r)) 0 0 (tp_A G) :=
  tp_met (I := i_X11_cell) (y := y_X11_cell) (by decide +kernel) (Eq.refl "TypesAtPrimeModel") (Eq.refl "cell") (lv := [some (.inr (.inr 483)), some (.inl a0), some (.inl a1), some (.inl a2)]) rfl (Nat.le_of_ble_eq_true rfl) (T_X11_cell G a0 a1 a2 M0) h l
def y_X11_item : MethodName := ⟨"TypesAtPrimeModel", "item", "(II)J"⟩
abbrev i_X11_item : tp_I := (prog_13_method_95_code, "TypesAtPrimeModel", (some .long), 3, "item")
abbrev o_X11_item (M : tp_M) : Int → tp_O := fun r => (some (.inr (.inl r)), tp_NC, tp_st M)
theorem d_X11_item_0 : decode prog_13_method_95_code 0 = .ok (.iload_n 1, 1) := by decide +kernel
theorem d_X11_item_1 : decode prog_13_method_95_code 1 = .ok (.invokestatic 468, 3) := by decide +kernel
theorem d_X11_item_4 : decode prog_13_method_95_code 4 = .ok (.ifCond .eq 30, 3) := by decide +kernel
theorem d_X11_item_7 : decode prog_13_method_95_code 7 = .ok (.iload_n 2, 1) := by decide +kernel
theorem d_X11_item_8 : decode prog_13_method_95_code 8 = .ok (.i2l, 1) := by decide +kernel
theorem d_X11_item_9 : decode prog_13_method_95_code 9 = .ok (.lconst 0, 1) := by decide +kernel
theorem d_X11_item_10 : decode prog_13_method_95_code 10 = .ok (.aload_n 0, 1) := by decide +kernel
theorem d_X11_item_11 : decode prog_13_method_95_code 11 = .ok (.getfield 158, 3) := by decide +kernel
theorem d_X11_item_14 : decode prog_13_method_95_code 14 = .ok (.iload_n 1, 1) := by decide +kernel
theorem d_X11_item_15 : decode prog_13_method_95_code 15 = .ok (.iaload, 1) := by decide +kernel
theorem d_X11_item_16 : decode prog_13_method_95_code 16 = .ok (.iconst 1, 1) := by decide +kernel
theorem d_X11_item_17 : decode prog_13_method_95_code 17 = .ok (.isub, 1) := by decide +kernel
theorem d_X11_item_18 : decode prog_13_method_95_code 18 = .ok (.i2l, 1) := by decide +kernel
theorem d_X11_item_19 : decode prog_13_method_95_code 19 = .ok (.invokestatic 193, 3) := by decide +kernel
theorem d_X11_item_22 : decode prog_13_method_95_code 22 = .ok (.ifCond .eq 12, 3) := by decide +kernel
theorem d_X11_item_25 : decode prog_13_method_95_code 25 = .ok (.aload_n 0, 1) := by decide +kernel
theorem d_X11_item_26 : decode prog_13_method_95_code 26 = .ok (.iload_n 1, 1) := by decide +kernel
theorem d_X11_item_27 : decode prog_13_method_95_code 27 = .ok (.iload_n 2, 1) := by decide +kernel
theorem d_X11_item_28 : decode prog_13_method_95_code 28 = .ok (.invokevirtual 464, 3) := by decide +kernel
theorem d_X11_item_31 : decode prog_13_method_95_code 31 = .ok (.goto 6, 3) := by decide +kernel
theorem d_X11_item_34 : decode prog_13_method_95_code 34 = .ok (.ldc2_w 246, 3) := by decide +kernel
theorem d_X11_item_37 : decode prog_13_method_95_code 37 = .ok (.lreturn, 1) := by decide +kernel
def f_X11_item (a0 : Int) (a1 : Int) (M0 : tp_M) : Option (Int) :=
  (f_X11_isSheet a0 M0).bind fun r1 =>
  if r1 = 0 then
    some (-9223372036854775808)
  else
    if 0 ≤ a0 ∧ a0 < 4 then
      (f_X11_in a1 0 (tp_w ((M0 533 a0) - 1)) M0).bind fun r4 =>
      if r4 = 0 then
        some (-9223372036854775808)
      else
        (f_X11_item0 a0 a1 M0).bind fun r7 =>
        some r7 else none
set_option maxHeartbeats 4000000 in
set_option maxRecDepth 100000 in
theorem T_X11_item (G : tp_G) (a0 : Int) (a1 : Int) (M0 : tp_M) : tp_J i_X11_item (tp_rm 1) G 0 0 (o_X11_item M0) tp_NC (tp_st M0) 0 0 [some (.inr (.inr 483)), some (.inl a0), some (.inl a1)] 0 [] (f_X11_item a0 a1 M0) := by
  unfold f_X11_item
  refine j_iload_n rfl d_X11_item_0 rfl ?_
  refine j_bind (fun r1 h2 => ?_)
  refine j_callS (y := y_X11_isSheet) (I' := i_X11_isSheet) (avs := [.inl a0]) (st := []) (c_X11_isSheet G a0 M0 r1 h2) cs_Model_468 wd_1580 wd_1581 rfl rfl (Nat.le_of_ble_eq_true rfl) ⟨rfl, rfl⟩ ⟨by decide, by decide⟩ ⟨by decide, by decide⟩ d_X11_item_1 ?_
  refine j_if_eq (tgt := 34) d_X11_item_4 (by decide) (fun h3 => ?_) (fun h3 => ?_)
  · refine j_ldc2 (x := (-9223372036854775808)) ⟨by decide, by decide⟩ (show Cond.constantLong _ _ _ ∈ lw_tbl from wd_1305) d_X11_item_34 ?_
    exact j_lret d_X11_item_37 rfl rfl ⟨rfl, rfl⟩
  · refine j_iload_n rfl d_X11_item_7 rfl ?_
    refine j_i2l d_X11_item_8 ?_
    refine j_lconst (x := 0) ⟨by decide, by decide⟩ (by decide +kernel) d_X11_item_9 ?_
    refine j_aload_n rfl d_X11_item_10 rfl ?_
    refine j_getr fl_Model_158 tg_483 rv_483_65 d_X11_item_11 ?_
    refine j_iload_n rfl d_X11_item_14 rfl ?_
    refine j_iald tg_533 al_533 d_X11_item_15 ?_
    refine j_iconst ⟨by decide, by decide⟩ d_X11_item_16 ?_
    refine j_isub d_X11_item_17 ?_
    refine j_i2l d_X11_item_18 ?_
    refine j_bind (fun r4 h5 => ?_)
    refine j_callS (y := y_X11_in) (I' := i_X11_in) (avs := [.inr (.inl a1), .inr (.inl 0), .inr (.inl (tp_w ((M0 533 a0) - 1)))]) (st := []) (c_X11_in G a1 0 (tp_w ((M0 533 a0) - 1)) M0 r4 h5) cs_Model_193 wd_1239 wd_1240 rfl rfl (Nat.le_of_ble_eq_true rfl) ⟨rfl, rfl⟩ ⟨by decide, by decide⟩ ⟨by decide, by decide⟩ d_X11_item_19 ?_
    refine j_if_eq (tgt := 34) d_X11_item_22 (by decide) (fun h6 => ?_) (fun h6 => ?_)
    · refine j_ldc2 (x := (-9223372036854775808)) ⟨by decide, by decide⟩ (show Cond.constantLong _ _ _ ∈ lw_tbl from wd_1305) d_X11_item_34 ?_
      exact j_lret d_X11_item_37 rfl rfl ⟨rfl, rfl⟩
    · refine j_aload_n rfl d_X11_item_25 rfl ?_
      refine j_iload_n rfl d_X11_item_26 rfl ?_
      refine j_iload_n rfl d_X11_item_27 rfl ?_
      refine j_bind (fun r7 h8 => ?_)
      refine j_callV (y := y_X11_item0) (I' := i_X11_item0) (avs := [.inl a0, .inl a1]) (c := 483) (st := []) (c_X11_item0 G a0 a1 M0 r7 h8) cs_Model_464 wd_1583 wd_1585 ws_90 tg_483 rfl rfl rfl (Nat.le_of_ble_eq_true rfl) ⟨rfl, rfl⟩ ⟨by decide, by decide⟩ ⟨by decide, by decide⟩ d_X11_item_28 ?_
      refine j_goto (tgt := 37) d_X11_item_31 (by decide) ?_
      exact j_lret d_X11_item_37 rfl rfl ⟨rfl, rfl⟩
set_option maxHeartbeats 4000000 in
set_option maxRecDepth 100000 in
theorem c_X11_item (G : tp_G) (a0 : Int) (a1 : Int) (M0 : tp_M) (r : Int) (h : f_X11_item a0 a1 M0 = some r) (l : Launch) : Met l y_X11_item (tp_ws y_X11_item i_X11_item) (tp_rm 1) (tp_Pc G [.inr (.inr 483), .inl a0, .inl a1] tp_NC (tp_st M0)) (tp_Q G ((o_X11_item M0) r)) 0 0 (tp_A G) :=
  tp_met (I := i_X11_item) (y := y_X11_item) (by decide +kernel) (Eq.refl "TypesAtPrimeModel") (Eq.refl "item") (lv := [some (.inr (.inr 483)), some (.inl a0), some (.inl a1)]) rfl (Nat.le_of_ble_eq_true rfl) (T_X11_item G a0 a1 M0) h l
def y_X11_shift : MethodName := ⟨"TypesAtPrimeModel", "shift", "(IIIII)I"⟩
abbrev i_X11_shift : tp_I := (prog_13_method_96_code, "TypesAtPrimeModel", (some .int), 9, "shift")
abbrev o_X11_shift : Int × tp_M → tp_O := fun r => (some (.inl r.1), tp_NC, tp_st r.2)
theorem d_X11_shift_0 : decode prog_13_method_96_code 0 = .ok (.iload_n 1, 1) := by decide +kernel
theorem d_X11_shift_1 : decode prog_13_method_96_code 1 = .ok (.invokestatic 468, 3) := by decide +kernel
theorem d_X11_shift_4 : decode prog_13_method_96_code 4 = .ok (.ifCond .eq 10, 3) := by decide +kernel
theorem d_X11_shift_7 : decode prog_13_method_96_code 7 = .ok (.iload_n 3, 1) := by decide +kernel
theorem d_X11_shift_8 : decode prog_13_method_96_code 8 = .ok (.invokestatic 468, 3) := by decide +kernel
theorem d_X11_shift_11 : decode prog_13_method_96_code 11 = .ok (.ifCond .ne 5, 3) := by decide +kernel
theorem d_X11_shift_14 : decode prog_13_method_96_code 14 = .ok (.iconst (-1), 1) := by decide +kernel
theorem d_X11_shift_15 : decode prog_13_method_96_code 15 = .ok (.ireturn, 1) := by decide +kernel
theorem d_X11_shift_16 : decode prog_13_method_96_code 16 = .ok (.aload_n 0, 1) := by decide +kernel
theorem d_X11_shift_17 : decode prog_13_method_96_code 17 = .ok (.getfield 155, 3) := by decide +kernel
theorem d_X11_shift_20 : decode prog_13_method_96_code 20 = .ok (.iload_n 1, 1) := by decide +kernel
theorem d_X11_shift_21 : decode prog_13_method_96_code 21 = .ok (.iaload, 1) := by decide +kernel
theorem d_X11_shift_22 : decode prog_13_method_96_code 22 = .ok (.ifCond .lt 12, 3) := by decide +kernel
theorem d_X11_shift_25 : decode prog_13_method_96_code 25 = .ok (.aload_n 0, 1) := by decide +kernel
theorem d_X11_shift_26 : decode prog_13_method_96_code 26 = .ok (.getfield 155, 3) := by decide +kernel
theorem d_X11_shift_29 : decode prog_13_method_96_code 29 = .ok (.iload_n 3, 1) := by decide +kernel
theorem d_X11_shift_30 : decode prog_13_method_96_code 30 = .ok (.iaload, 1) := by decide +kernel
theorem d_X11_shift_31 : decode prog_13_method_96_code 31 = .ok (.ifCond .ge 6, 3) := by decide +kernel
theorem d_X11_shift_34 : decode prog_13_method_96_code 34 = .ok (.bipush (-11), 2) := by decide +kernel
theorem d_X11_shift_36 : decode prog_13_method_96_code 36 = .ok (.ireturn, 1) := by decide +kernel
theorem d_X11_shift_37 : decode prog_13_method_96_code 37 = .ok (.aload_n 0, 1) := by decide +kernel
theorem d_X11_shift_38 : decode prog_13_method_96_code 38 = .ok (.getfield 155, 3) := by decide +kernel
theorem d_X11_shift_41 : decode prog_13_method_96_code 41 = .ok (.iload_n 1, 1) := by decide +kernel
theorem d_X11_shift_42 : decode prog_13_method_96_code 42 = .ok (.iaload, 1) := by decide +kernel
theorem d_X11_shift_43 : decode prog_13_method_96_code 43 = .ok (.aload_n 0, 1) := by decide +kernel
theorem d_X11_shift_44 : decode prog_13_method_96_code 44 = .ok (.getfield 155, 3) := by decide +kernel
theorem d_X11_shift_47 : decode prog_13_method_96_code 47 = .ok (.iload_n 3, 1) := by decide +kernel
theorem d_X11_shift_48 : decode prog_13_method_96_code 48 = .ok (.iaload, 1) := by decide +kernel
theorem d_X11_shift_49 : decode prog_13_method_96_code 49 = .ok (.if_icmp .eq 6, 3) := by decide +kernel
theorem d_X11_shift_52 : decode prog_13_method_96_code 52 = .ok (.bipush (-13), 2) := by decide +kernel
theorem d_X11_shift_54 : decode prog_13_method_96_code 54 = .ok (.ireturn, 1) := by decide +kernel
theorem d_X11_shift_55 : decode prog_13_method_96_code 55 = .ok (.iload 5, 2) := by decide +kernel
theorem d_X11_shift_57 : decode prog_13_method_96_code 57 = .ok (.ifCond .lt 39, 3) := by decide +kernel
theorem d_X11_shift_60 : decode prog_13_method_96_code 60 = .ok (.iload_n 2, 1) := by decide +kernel
theorem d_X11_shift_61 : decode prog_13_method_96_code 61 = .ok (.ifCond .lt 35, 3) := by decide +kernel
theorem d_X11_shift_64 : decode prog_13_method_96_code 64 = .ok (.iload 4, 2) := by decide +kernel
theorem d_X11_shift_66 : decode prog_13_method_96_code 66 = .ok (.ifCond .lt 30, 3) := by decide +kernel
theorem d_X11_shift_69 : decode prog_13_method_96_code 69 = .ok (.iload 5, 2) := by decide +kernel
theorem d_X11_shift_71 : decode prog_13_method_96_code 71 = .ok (.aload_n 0, 1) := by decide +kernel
theorem d_X11_shift_72 : decode prog_13_method_96_code 72 = .ok (.getfield 158, 3) := by decide +kernel
theorem d_X11_shift_75 : decode prog_13_method_96_code 75 = .ok (.iload_n 1, 1) := by decide +kernel
theorem d_X11_shift_76 : decode prog_13_method_96_code 76 = .ok (.iaload, 1) := by decide +kernel
theorem d_X11_shift_77 : decode prog_13_method_96_code 77 = .ok (.iload_n 2, 1) := by decide +kernel
theorem d_X11_shift_78 : decode prog_13_method_96_code 78 = .ok (.isub, 1) := by decide +kernel
theorem d_X11_shift_79 : decode prog_13_method_96_code 79 = .ok (.if_icmp .gt 17, 3) := by decide +kernel
theorem d_X11_shift_82 : decode prog_13_method_96_code 82 = .ok (.iload 5, 2) := by decide +kernel
theorem d_X11_shift_84 : decode prog_13_method_96_code 84 = .ok (.aload_n 0, 1) := by decide +kernel
theorem d_X11_shift_85 : decode prog_13_method_96_code 85 = .ok (.getfield 158, 3) := by decide +kernel
theorem d_X11_shift_88 : decode prog_13_method_96_code 88 = .ok (.iload_n 3, 1) := by decide +kernel
theorem d_X11_shift_89 : decode prog_13_method_96_code 89 = .ok (.iaload, 1) := by decide +kernel
theorem d_X11_shift_90 : decode prog_13_method_96_code 90 = .ok (.iload 4, 2) := by decide +kernel
theorem d_X11_shift_92 : decode prog_13_method_96_code 92 = .ok (.isub, 1) := by decide +kernel
theorem d_X11_shift_93 : decode prog_13_method_96_code 93 = .ok (.if_icmp .le 6, 3) := by decide +kernel
theorem d_X11_shift_96 : decode prog_13_method_96_code 96 = .ok (.bipush (-12), 2) := by decide +kernel
theorem d_X11_shift_98 : decode prog_13_method_96_code 98 = .ok (.ireturn, 1) := by decide +kernel
theorem d_X11_shift_99 : decode prog_13_method_96_code 99 = .ok (.bipush 40, 2) := by decide +kernel
theorem d_X11_shift_101 : decode prog_13_method_96_code 101 = .ok (.iload_n 1, 1) := by decide +kernel
theorem d_X11_shift_102 : decode prog_13_method_96_code 102 = .ok (.imul, 1) := by decide +kernel
theorem d_X11_shift_103 : decode prog_13_method_96_code 103 = .ok (.iload_n 2, 1) := by decide +kernel
theorem d_X11_shift_104 : decode prog_13_method_96_code 104 = .ok (.iadd, 1) := by decide +kernel
theorem d_X11_shift_105 : decode prog_13_method_96_code 105 = .ok (.bipush 40, 2) := by decide +kernel
theorem d_X11_shift_107 : decode prog_13_method_96_code 107 = .ok (.iload_n 3, 1) := by decide +kernel
theorem d_X11_shift_108 : decode prog_13_method_96_code 108 = .ok (.imul, 1) := by decide +kernel
theorem d_X11_shift_109 : decode prog_13_method_96_code 109 = .ok (.iload 4, 2) := by decide +kernel
theorem d_X11_shift_111 : decode prog_13_method_96_code 111 = .ok (.iadd, 1) := by decide +kernel
theorem d_X11_shift_112 : decode prog_13_method_96_code 112 = .ok (.if_icmp .ge 7, 3) := by decide +kernel
theorem d_X11_shift_115 : decode prog_13_method_96_code 115 = .ok (.iconst 1, 1) := by decide +kernel
theorem d_X11_shift_116 : decode prog_13_method_96_code 116 = .ok (.goto 4, 3) := by decide +kernel
theorem d_X11_shift_119 : decode prog_13_method_96_code 119 = .ok (.iconst 0, 1) := by decide +kernel
theorem d_X11_shift_120 : decode prog_13_method_96_code 120 = .ok (.istore 6, 2) := by decide +kernel
theorem d_X11_shift_122 : decode prog_13_method_96_code 122 = .ok (.iconst 0, 1) := by decide +kernel
theorem d_X11_shift_123 : decode prog_13_method_96_code 123 = .ok (.istore 7, 2) := by decide +kernel
theorem d_X11_shift_125 : decode prog_13_method_96_code 125 = .ok (.iload 7, 2) := by decide +kernel
theorem d_X11_shift_127 : decode prog_13_method_96_code 127 = .ok (.iload 5, 2) := by decide +kernel
theorem d_X11_shift_129 : decode prog_13_method_96_code 129 = .ok (.if_icmp .ge 57, 3) := by decide +kernel
theorem d_X11_shift_132 : decode prog_13_method_96_code 132 = .ok (.iload 6, 2) := by decide +kernel
theorem d_X11_shift_134 : decode prog_13_method_96_code 134 = .ok (.ifCond .eq 13, 3) := by decide +kernel
theorem d_X11_shift_137 : decode prog_13_method_96_code 137 = .ok (.iload 5, 2) := by decide +kernel
theorem d_X11_shift_139 : decode prog_13_method_96_code 139 = .ok (.iconst 1, 1) := by decide +kernel
theorem d_X11_shift_140 : decode prog_13_method_96_code 140 = .ok (.isub, 1) := by decide +kernel
theorem d_X11_shift_141 : decode prog_13_method_96_code 141 = .ok (.iload 7, 2) := by decide +kernel
theorem d_X11_shift_143 : decode prog_13_method_96_code 143 = .ok (.isub, 1) := by decide +kernel
theorem d_X11_shift_144 : decode prog_13_method_96_code 144 = .ok (.goto 5, 3) := by decide +kernel
theorem d_X11_shift_147 : decode prog_13_method_96_code 147 = .ok (.iload 7, 2) := by decide +kernel
theorem d_X11_shift_149 : decode prog_13_method_96_code 149 = .ok (.istore 8, 2) := by decide +kernel
theorem d_X11_shift_151 : decode prog_13_method_96_code 151 = .ok (.aload_n 0, 1) := by decide +kernel
theorem d_X11_shift_152 : decode prog_13_method_96_code 152 = .ok (.getfield 161, 3) := by decide +kernel
theorem d_X11_shift_155 : decode prog_13_method_96_code 155 = .ok (.bipush 40, 2) := by decide +kernel
theorem d_X11_shift_157 : decode prog_13_method_96_code 157 = .ok (.iload_n 3, 1) := by decide +kernel
theorem d_X11_shift_158 : decode prog_13_method_96_code 158 = .ok (.imul, 1) := by decide +kernel
theorem d_X11_shift_159 : decode prog_13_method_96_code 159 = .ok (.iload 4, 2) := by decide +kernel
theorem d_X11_shift_161 : decode prog_13_method_96_code 161 = .ok (.iadd, 1) := by decide +kernel
theorem d_X11_shift_162 : decode prog_13_method_96_code 162 = .ok (.iload 8, 2) := by decide +kernel
theorem d_X11_shift_164 : decode prog_13_method_96_code 164 = .ok (.iadd, 1) := by decide +kernel
theorem d_X11_shift_165 : decode prog_13_method_96_code 165 = .ok (.aload_n 0, 1) := by decide +kernel
theorem d_X11_shift_166 : decode prog_13_method_96_code 166 = .ok (.getfield 161, 3) := by decide +kernel
theorem d_X11_shift_169 : decode prog_13_method_96_code 169 = .ok (.bipush 40, 2) := by decide +kernel
theorem d_X11_shift_171 : decode prog_13_method_96_code 171 = .ok (.iload_n 1, 1) := by decide +kernel
theorem d_X11_shift_172 : decode prog_13_method_96_code 172 = .ok (.imul, 1) := by decide +kernel
theorem d_X11_shift_173 : decode prog_13_method_96_code 173 = .ok (.iload_n 2, 1) := by decide +kernel
theorem d_X11_shift_174 : decode prog_13_method_96_code 174 = .ok (.iadd, 1) := by decide +kernel
theorem d_X11_shift_175 : decode prog_13_method_96_code 175 = .ok (.iload 8, 2) := by decide +kernel
theorem d_X11_shift_177 : decode prog_13_method_96_code 177 = .ok (.iadd, 1) := by decide +kernel
theorem d_X11_shift_178 : decode prog_13_method_96_code 178 = .ok (.iaload, 1) := by decide +kernel
theorem d_X11_shift_179 : decode prog_13_method_96_code 179 = .ok (.iastore, 1) := by decide +kernel
theorem d_X11_shift_180 : decode prog_13_method_96_code 180 = .ok (.iinc 7 1, 3) := by decide +kernel
theorem d_X11_shift_183 : decode prog_13_method_96_code 183 = .ok (.goto (-58), 3) := by decide +kernel
theorem d_X11_shift_186 : decode prog_13_method_96_code 186 = .ok (.iload 5, 2) := by decide +kernel
theorem d_X11_shift_188 : decode prog_13_method_96_code 188 = .ok (.ireturn, 1) := by decide +kernel
def f_X11_shift_149 (rec_125 : Int → tp_M → Option (Int × tp_M)) (x1 : Int) (x2 : Int) (x3 : Int) (x4 : Int) (x5 : Int) (x6 : Int) (x7 : Int) (s0 : Int) (M0 : tp_M) : Option (Int × tp_M) :=
  if 0 ≤ (tp_w ((tp_w ((tp_w (40 * x1)) + x2)) + s0)) ∧ (tp_w ((tp_w ((tp_w (40 * x1)) + x2)) + s0)) < 160 then
    if 0 ≤ (tp_w ((tp_w ((tp_w (40 * x3)) + x4)) + s0)) ∧ (tp_w ((tp_w ((tp_w (40 * x3)) + x4)) + s0)) < 160 then
      tp_mp (tp_up M0 534 (tp_w ((tp_w ((tp_w (40 * x3)) + x4)) + s0)) (M0 534 (tp_w ((tp_w ((tp_w (40 * x1)) + x2)) + s0)))) fun M18 =>
      tp_lt (tp_w (x7 + 1)) fun y19 =>
      rec_125 y19 M18 else none else none
set_option maxHeartbeats 4000000 in
set_option maxRecDepth 100000 in
theorem T_X11_shift_149 (G : tp_G) (rec_125 : Int → tp_M → Option (Int × tp_M)) (x1 : Int) (x2 : Int) (x3 : Int) (x4 : Int) (x5 : Int) (x6 : Int) (x7 : Int) (s0 : Int) (M0 : tp_M) (hrec_125 : ∀ (x7' : Int) (M' : tp_M), tp_J i_X11_shift (tp_rm 1) G 0 0 o_X11_shift tp_NC (tp_st M') 0 0 [some (.inr (.inr 483)), some (.inl x1), some (.inl x2), some (.inl x3), some (.inl x4), some (.inl x5), some (.inl x6), some (.inl (x7')), none] 125 [] (rec_125 x7' M')) : tp_J i_X11_shift (tp_rm 1) G 0 0 o_X11_shift tp_NC (tp_st M0) 0 0 [some (.inr (.inr 483)), some (.inl x1), some (.inl x2), some (.inl x3), some (.inl x4), some (.inl x5), some (.inl x6), some (.inl x7), none] 149 [.inl s0] (f_X11_shift_149 rec_125 x1 x2 x3 x4 x5 x6 x7 s0 M0) := by
  unfold f_X11_shift_149
  refine j_istore (lv' := [some (.inr (.inr 483)), some (.inl x1), some (.inl x2), some (.inl x3), some (.inl x4), some (.inl x5), some (.inl x6), some (.inl x7), some (.inl s0)]) d_X11_shift_149 (Nat.le_of_ble_eq_true rfl) rfl ?_
  refine j_aload_n rfl d_X11_shift_151 rfl ?_
  refine j_getr fl_Model_161 tg_483 rv_483_66 d_X11_shift_152 ?_
  refine j_bipush ⟨by decide, by decide⟩ (by decide +kernel) d_X11_shift_155 ?_
  refine j_iload_n rfl d_X11_shift_157 rfl ?_
  refine j_imul d_X11_shift_158 ?_
  refine j_iload d_X11_shift_159 rfl ?_
  refine j_iadd d_X11_shift_161 ?_
  refine j_iload d_X11_shift_162 rfl ?_
  refine j_iadd d_X11_shift_164 ?_
  refine j_aload_n rfl d_X11_shift_165 rfl ?_
  refine j_getr fl_Model_161 tg_483 rv_483_66 d_X11_shift_166 ?_
  refine j_bipush ⟨by decide, by decide⟩ (by decide +kernel) d_X11_shift_169 ?_
  refine j_iload_n rfl d_X11_shift_171 rfl ?_
  refine j_imul d_X11_shift_172 ?_
  refine j_iload_n rfl d_X11_shift_173 rfl ?_
  refine j_iadd d_X11_shift_174 ?_
  refine j_iload d_X11_shift_175 rfl ?_
  refine j_iadd d_X11_shift_177 ?_
  refine j_iald tg_534 al_534 d_X11_shift_178 ?_
  refine j_iast tg_534 al_534 d_X11_shift_179 (fun M18 hM18 => ?_)
  refine j_iincN (lv' := fun y19 => [some (.inr (.inr 483)), some (.inl x1), some (.inl x2), some (.inl x3), some (.inl x4), some (.inl x5), some (.inl x6), some (.inl y19), some (.inl s0)]) d_X11_shift_180 rfl (Nat.le_of_ble_eq_true rfl) (fun _ => rfl) (fun y19 hy19 => ?_)
  refine j_goto (tgt := 125) d_X11_shift_183 (by decide) ?_
  exact j_wk [true, true, true, true, true, true, true, true, false] rfl rfl (hrec_125 y19 M18)
def f_X11_shift_125B (x1 : Int) (x2 : Int) (x3 : Int) (x4 : Int) (x5 : Int) (x6 : Int) (rec_125 : Int → tp_M → Option (Int × tp_M)) (x7 : Int) (M0 : tp_M) : Option (Int × tp_M) :=
  if x5 ≤ x7 then
    some (x5, M0)
  else
    if x6 = 0 then
      f_X11_shift_149 rec_125 x1 x2 x3 x4 x5 x6 x7 x7 M0
    else
      f_X11_shift_149 rec_125 x1 x2 x3 x4 x5 x6 x7 (tp_w ((tp_w (x5 - 1)) - x7)) M0
set_option maxHeartbeats 4000000 in
set_option maxRecDepth 100000 in
theorem T_X11_shift_125B (G : tp_G) (x1 : Int) (x2 : Int) (x3 : Int) (x4 : Int) (x5 : Int) (x6 : Int) (rec_125 : Int → tp_M → Option (Int × tp_M)) (hrec_125 : ∀ (x7' : Int) (M' : tp_M), tp_J i_X11_shift (tp_rm 1) G 0 0 o_X11_shift tp_NC (tp_st M') 0 0 [some (.inr (.inr 483)), some (.inl x1), some (.inl x2), some (.inl x3), some (.inl x4), some (.inl x5), some (.inl x6), some (.inl (x7')), none] 125 [] (rec_125 x7' M')) (x7 : Int) (M0 : tp_M) : tp_J i_X11_shift (tp_rm 1) G 0 0 o_X11_shift tp_NC (tp_st M0) 0 0 [some (.inr (.inr 483)), some (.inl x1), some (.inl x2), some (.inl x3), some (.inl x4), some (.inl x5), some (.inl x6), some (.inl x7), none] 125 [] (f_X11_shift_125B x1 x2 x3 x4 x5 x6 rec_125 x7 M0) := by
  unfold f_X11_shift_125B
  refine j_iload d_X11_shift_125 rfl ?_
  refine j_iload d_X11_shift_127 rfl ?_
  refine j_icmp_ge (tgt := 186) d_X11_shift_129 (by decide) (fun h16 => ?_) (fun h16 => ?_)
  · refine j_iload d_X11_shift_186 rfl ?_
    exact j_iret d_X11_shift_188 rfl rfl ⟨rfl, rfl⟩
  · refine j_iload d_X11_shift_132 rfl ?_
    refine j_if_eq (tgt := 147) d_X11_shift_134 (by decide) (fun h17 => ?_) (fun h17 => ?_)
    · refine j_iload d_X11_shift_147 rfl ?_
      exact j_wk [true, true, true, true, true, true, true, true, false] rfl rfl (T_X11_shift_149 G rec_125 x1 x2 x3 x4 x5 x6 x7 x7 M0 hrec_125)
    · refine j_iload d_X11_shift_137 rfl ?_
      refine j_iconst ⟨by decide, by decide⟩ d_X11_shift_139 ?_
      refine j_isub d_X11_shift_140 ?_
      refine j_iload d_X11_shift_141 rfl ?_
      refine j_isub d_X11_shift_143 ?_
      refine j_goto (tgt := 149) d_X11_shift_144 (by decide) ?_
      exact j_wk [true, true, true, true, true, true, true, true, false] rfl rfl (T_X11_shift_149 G rec_125 x1 x2 x3 x4 x5 x6 x7 (tp_w ((tp_w (x5 - 1)) - x7)) M0 hrec_125)
def f_X11_shift_125 (x1 : Int) (x2 : Int) (x3 : Int) (x4 : Int) (x5 : Int) (x6 : Int) (x7 : Int) (M0 : tp_M) : Option (Int × tp_M) := tp_lp (σ := Int × tp_M) (fun rec_ u => f_X11_shift_125B x1 x2 x3 x4 x5 x6 (fun x7' M0' => rec_ (x7', M0')) u.1 u.2) tp_N (x7, M0)
set_option maxHeartbeats 4000000 in
set_option maxRecDepth 100000 in
theorem T_X11_shift_125 (G : tp_G) (x1 : Int) (x2 : Int) (x3 : Int) (x4 : Int) (x5 : Int) (x6 : Int) (x7 : Int) (M0 : tp_M) : tp_J i_X11_shift (tp_rm 1) G 0 0 o_X11_shift tp_NC (tp_st M0) 0 0 [some (.inr (.inr 483)), some (.inl x1), some (.inl x2), some (.inl x3), some (.inl x4), some (.inl x5), some (.inl x6), some (.inl x7), none] 125 [] (f_X11_shift_125 x1 x2 x3 x4 x5 x6 x7 M0) := by
  unfold f_X11_shift_125
  exact j_lp (σ := Int × tp_M) (n' := fun _ => tp_NC) (g' := fun u => tp_st u.2) (k' := fun _ => 0) (q' := fun _ => 0) (lv' := fun u => [some (.inr (.inr 483)), some (.inl x1), some (.inl x2), some (.inl x3), some (.inl x4), some (.inl x5), some (.inl x6), some (.inl u.1), none]) (fun rec_ hrec u => T_X11_shift_125B G x1 x2 x3 x4 x5 x6 (fun x7' M0' => rec_ (x7', M0')) (fun x7' M0' => hrec (x7', M0')) u.1 u.2) tp_N (x7, M0)
def f_X11_shift_120 (x1 : Int) (x2 : Int) (x3 : Int) (x4 : Int) (x5 : Int) (s0 : Int) (M0 : tp_M) : Option (Int × tp_M) :=
  f_X11_shift_125 x1 x2 x3 x4 x5 s0 0 M0
set_option maxHeartbeats 4000000 in
set_option maxRecDepth 100000 in
theorem T_X11_shift_120 (G : tp_G) (x1 : Int) (x2 : Int) (x3 : Int) (x4 : Int) (x5 : Int) (s0 : Int) (M0 : tp_M) : tp_J i_X11_shift (tp_rm 1) G 0 0 o_X11_shift tp_NC (tp_st M0) 0 0 [some (.inr (.inr 483)), some (.inl x1), some (.inl x2), some (.inl x3), some (.inl x4), some (.inl x5), none, none, none] 120 [.inl s0] (f_X11_shift_120 x1 x2 x3 x4 x5 s0 M0) := by
  unfold f_X11_shift_120
  refine j_istore (lv' := [some (.inr (.inr 483)), some (.inl x1), some (.inl x2), some (.inl x3), some (.inl x4), some (.inl x5), some (.inl s0), none, none]) d_X11_shift_120 (Nat.le_of_ble_eq_true rfl) rfl ?_
  refine j_iconst ⟨by decide, by decide⟩ d_X11_shift_122 ?_
  refine j_istore (lv' := [some (.inr (.inr 483)), some (.inl x1), some (.inl x2), some (.inl x3), some (.inl x4), some (.inl x5), some (.inl s0), some (.inl 0), none]) d_X11_shift_123 (Nat.le_of_ble_eq_true rfl) rfl ?_
  exact j_wk [true, true, true, true, true, true, true, true, false] rfl rfl (T_X11_shift_125 G x1 x2 x3 x4 x5 s0 0 M0)
def f_X11_shift (a0 : Int) (a1 : Int) (a2 : Int) (a3 : Int) (a4 : Int) (M0 : tp_M) : Option (Int × tp_M) :=
  (f_X11_isSheet a0 M0).bind fun r1 =>
  if r1 = 0 then
    some ((-1), M0)
  else
    (f_X11_isSheet a2 M0).bind fun r4 =>
    if ¬ r4 = 0 then
      if 0 ≤ a0 ∧ a0 < 4 then
        if (M0 532 a0) < 0 then
          some ((-11), M0)
        else
          if 0 ≤ a2 ∧ a2 < 4 then
            if 0 ≤ (M0 532 a2) then
              if 0 ≤ a0 ∧ a0 < 4 then
                if 0 ≤ a2 ∧ a2 < 4 then
                  if (M0 532 a0) = (M0 532 a2) then
                    if a4 < 0 then
                      some ((-12), M0)
                    else
                      if a1 < 0 then
                        some ((-12), M0)
                      else
                        if a3 < 0 then
                          some ((-12), M0)
                        else
                          if 0 ≤ a0 ∧ a0 < 4 then
                            if (tp_w ((M0 533 a0) - a1)) < a4 then
                              some ((-12), M0)
                            else
                              if 0 ≤ a2 ∧ a2 < 4 then
                                if a4 ≤ (tp_w ((M0 533 a2) - a3)) then
                                  if (tp_w ((tp_w (40 * a2)) + a3)) ≤ (tp_w ((tp_w (40 * a0)) + a1)) then
                                    f_X11_shift_120 a0 a1 a2 a3 a4 0 M0
                                  else
                                    f_X11_shift_120 a0 a1 a2 a3 a4 1 M0
                                else
                                  some ((-12), M0) else none else none
                  else
                    some ((-13), M0) else none else none
            else
              some ((-11), M0) else none else none
    else
      some ((-1), M0)
set_option maxHeartbeats 4000000 in
set_option maxRecDepth 100000 in
theorem T_X11_shift (G : tp_G) (a0 : Int) (a1 : Int) (a2 : Int) (a3 : Int) (a4 : Int) (M0 : tp_M) : tp_J i_X11_shift (tp_rm 1) G 0 0 o_X11_shift tp_NC (tp_st M0) 0 0 [some (.inr (.inr 483)), some (.inl a0), some (.inl a1), some (.inl a2), some (.inl a3), some (.inl a4), none, none, none] 0 [] (f_X11_shift a0 a1 a2 a3 a4 M0) := by
  unfold f_X11_shift
  refine j_iload_n rfl d_X11_shift_0 rfl ?_
  refine j_bind (fun r1 h2 => ?_)
  refine j_callS (y := y_X11_isSheet) (I' := i_X11_isSheet) (avs := [.inl a0]) (st := []) (c_X11_isSheet G a0 M0 r1 h2) cs_Model_468 wd_1580 wd_1581 rfl rfl (Nat.le_of_ble_eq_true rfl) ⟨rfl, rfl⟩ ⟨by decide, by decide⟩ ⟨by decide, by decide⟩ d_X11_shift_1 ?_
  refine j_if_eq (tgt := 14) d_X11_shift_4 (by decide) (fun h3 => ?_) (fun h3 => ?_)
  · refine j_iconst ⟨by decide, by decide⟩ d_X11_shift_14 ?_
    exact j_iret d_X11_shift_15 rfl rfl ⟨rfl, rfl⟩
  · refine j_iload_n rfl d_X11_shift_7 rfl ?_
    refine j_bind (fun r4 h5 => ?_)
    refine j_callS (y := y_X11_isSheet) (I' := i_X11_isSheet) (avs := [.inl a2]) (st := []) (c_X11_isSheet G a2 M0 r4 h5) cs_Model_468 wd_1580 wd_1581 rfl rfl (Nat.le_of_ble_eq_true rfl) ⟨rfl, rfl⟩ ⟨by decide, by decide⟩ ⟨by decide, by decide⟩ d_X11_shift_8 ?_
    refine j_if_ne (tgt := 16) d_X11_shift_11 (by decide) (fun h6 => ?_) (fun h6 => ?_)
    · refine j_aload_n rfl d_X11_shift_16 rfl ?_
      refine j_getr fl_Model_155 tg_483 rv_483_64 d_X11_shift_17 ?_
      refine j_iload_n rfl d_X11_shift_20 rfl ?_
      refine j_iald tg_532 al_532 d_X11_shift_21 ?_
      refine j_if_lt (tgt := 34) d_X11_shift_22 (by decide) (fun h7 => ?_) (fun h7 => ?_)
      · refine j_bipush ⟨by decide, by decide⟩ (by decide +kernel) d_X11_shift_34 ?_
        exact j_iret d_X11_shift_36 rfl rfl ⟨rfl, rfl⟩
      · refine j_aload_n rfl d_X11_shift_25 rfl ?_
        refine j_getr fl_Model_155 tg_483 rv_483_64 d_X11_shift_26 ?_
        refine j_iload_n rfl d_X11_shift_29 rfl ?_
        refine j_iald tg_532 al_532 d_X11_shift_30 ?_
        refine j_if_ge (tgt := 37) d_X11_shift_31 (by decide) (fun h8 => ?_) (fun h8 => ?_)
        · refine j_aload_n rfl d_X11_shift_37 rfl ?_
          refine j_getr fl_Model_155 tg_483 rv_483_64 d_X11_shift_38 ?_
          refine j_iload_n rfl d_X11_shift_41 rfl ?_
          refine j_iald tg_532 al_532 d_X11_shift_42 ?_
          refine j_aload_n rfl d_X11_shift_43 rfl ?_
          refine j_getr fl_Model_155 tg_483 rv_483_64 d_X11_shift_44 ?_
          refine j_iload_n rfl d_X11_shift_47 rfl ?_
          refine j_iald tg_532 al_532 d_X11_shift_48 ?_
          refine j_icmp_eq (tgt := 55) d_X11_shift_49 (by decide) (fun h9 => ?_) (fun h9 => ?_)
          · refine j_iload d_X11_shift_55 rfl ?_
            refine j_if_lt (tgt := 96) d_X11_shift_57 (by decide) (fun h10 => ?_) (fun h10 => ?_)
            · refine j_bipush ⟨by decide, by decide⟩ (by decide +kernel) d_X11_shift_96 ?_
              exact j_iret d_X11_shift_98 rfl rfl ⟨rfl, rfl⟩
            · refine j_iload_n rfl d_X11_shift_60 rfl ?_
              refine j_if_lt (tgt := 96) d_X11_shift_61 (by decide) (fun h11 => ?_) (fun h11 => ?_)
              · refine j_bipush ⟨by decide, by decide⟩ (by decide +kernel) d_X11_shift_96 ?_
                exact j_iret d_X11_shift_98 rfl rfl ⟨rfl, rfl⟩
              · refine j_iload d_X11_shift_64 rfl ?_
                refine j_if_lt (tgt := 96) d_X11_shift_66 (by decide) (fun h12 => ?_) (fun h12 => ?_)
                · refine j_bipush ⟨by decide, by decide⟩ (by decide +kernel) d_X11_shift_96 ?_
                  exact j_iret d_X11_shift_98 rfl rfl ⟨rfl, rfl⟩
                · refine j_iload d_X11_shift_69 rfl ?_
                  refine j_aload_n rfl d_X11_shift_71 rfl ?_
                  refine j_getr fl_Model_158 tg_483 rv_483_65 d_X11_shift_72 ?_
                  refine j_iload_n rfl d_X11_shift_75 rfl ?_
                  refine j_iald tg_533 al_533 d_X11_shift_76 ?_
                  refine j_iload_n rfl d_X11_shift_77 rfl ?_
                  refine j_isub d_X11_shift_78 ?_
                  refine j_icmp_gt (tgt := 96) d_X11_shift_79 (by decide) (fun h13 => ?_) (fun h13 => ?_)
                  · refine j_bipush ⟨by decide, by decide⟩ (by decide +kernel) d_X11_shift_96 ?_
                    exact j_iret d_X11_shift_98 rfl rfl ⟨rfl, rfl⟩
                  · refine j_iload d_X11_shift_82 rfl ?_
                    refine j_aload_n rfl d_X11_shift_84 rfl ?_
                    refine j_getr fl_Model_158 tg_483 rv_483_65 d_X11_shift_85 ?_
                    refine j_iload_n rfl d_X11_shift_88 rfl ?_
                    refine j_iald tg_533 al_533 d_X11_shift_89 ?_
                    refine j_iload d_X11_shift_90 rfl ?_
                    refine j_isub d_X11_shift_92 ?_
                    refine j_icmp_le (tgt := 99) d_X11_shift_93 (by decide) (fun h14 => ?_) (fun h14 => ?_)
                    · refine j_bipush ⟨by decide, by decide⟩ (by decide +kernel) d_X11_shift_99 ?_
                      refine j_iload_n rfl d_X11_shift_101 rfl ?_
                      refine j_imul d_X11_shift_102 ?_
                      refine j_iload_n rfl d_X11_shift_103 rfl ?_
                      refine j_iadd d_X11_shift_104 ?_
                      refine j_bipush ⟨by decide, by decide⟩ (by decide +kernel) d_X11_shift_105 ?_
                      refine j_iload_n rfl d_X11_shift_107 rfl ?_
                      refine j_imul d_X11_shift_108 ?_
                      refine j_iload d_X11_shift_109 rfl ?_
                      refine j_iadd d_X11_shift_111 ?_
                      refine j_icmp_ge (tgt := 119) d_X11_shift_112 (by decide) (fun h15 => ?_) (fun h15 => ?_)
                      · refine j_iconst ⟨by decide, by decide⟩ d_X11_shift_119 ?_
                        exact j_wk [true, true, true, true, true, true, false, false, false] rfl rfl (T_X11_shift_120 G a0 a1 a2 a3 a4 0 M0)
                      · refine j_iconst ⟨by decide, by decide⟩ d_X11_shift_115 ?_
                        refine j_goto (tgt := 120) d_X11_shift_116 (by decide) ?_
                        exact j_wk [true, true, true, true, true, true, false, false, false] rfl rfl (T_X11_shift_120 G a0 a1 a2 a3 a4 1 M0)
                    · refine j_bipush ⟨by decide, by decide⟩ (by decide +kernel) d_X11_shift_96 ?_
                      exact j_iret d_X11_shift_98 rfl rfl ⟨rfl, rfl⟩
          · refine j_bipush ⟨by decide, by decide⟩ (by decide +kernel) d_X11_shift_52 ?_
            exact j_iret d_X11_shift_54 rfl rfl ⟨rfl, rfl⟩
        · refine j_bipush ⟨by decide, by decide⟩ (by decide +kernel) d_X11_shift_34 ?_
          exact j_iret d_X11_shift_36 rfl rfl ⟨rfl, rfl⟩
    · refine j_iconst ⟨by decide, by decide⟩ d_X11_shift_14 ?_
      exact j_iret d_X11_shift_15 rfl rfl ⟨rfl, rfl⟩
set_option maxHeartbeats 4000000 in
set_option maxRecDepth 100000 in
theorem c_X11_shift (G : tp_G) (a0 : Int) (a1 : Int) (a2 : Int) (a3 : Int) (a4 : Int) (M0 : tp_M) (r : Int × tp_M) (h : f_X11_shift a0 a1 a2 a3 a4 M0 = some r) (l : Launch) : Met l y_X11_shift (tp_ws y_X11_shift i_X11_shift) (tp_rm 1) (tp_Pc G [.inr (.inr 483), .inl a0, .inl a1, .inl a2, .inl a3, .inl a4] tp_NC (tp_st M0)) (tp_Q G (o_X11_shift r)) 0 0 (tp_A G) :=
  tp_met (I := i_X11_shift) (y := y_X11_shift) (by decide +kernel) (Eq.refl "TypesAtPrimeModel") (Eq.refl "shift") (lv := [some (.inr (.inr 483)), some (.inl a0), some (.inl a1), some (.inl a2), some (.inl a3), some (.inl a4), none, none, none]) rfl (Nat.le_of_ble_eq_true rfl) (T_X11_shift G a0 a1 a2 a3 a4 M0) h l
def y_X11_count : MethodName := ⟨"TypesAtPrimeModel", "count", "(I)I"⟩
abbrev i_X11_count : tp_I := (prog_13_method_97_code, "TypesAtPrimeModel", (some .int), 4, "count")
abbrev o_X11_count (M : tp_M) : Int → tp_O := fun r => (some (.inl r), tp_NC, tp_st M)
theorem d_X11_count_0 : decode prog_13_method_97_code 0 = .ok (.iconst 0, 1) := by decide +kernel
theorem d_X11_count_1 : decode prog_13_method_97_code 1 = .ok (.istore_n 2, 1) := by decide +kernel
theorem d_X11_count_2 : decode prog_13_method_97_code 2 = .ok (.iload_n 1, 1) := by decide +kernel
theorem d_X11_count_3 : decode prog_13_method_97_code 3 = .ok (.tableswitch 130 0 5 #[37, 42, 47, 52, 85, 117], 37) := by decide +kernel
theorem d_X11_count_40 : decode prog_13_method_97_code 40 = .ok (.aload_n 0, 1) := by decide +kernel
theorem d_X11_count_41 : decode prog_13_method_97_code 41 = .ok (.getfield 168, 3) := by decide +kernel
theorem d_X11_count_44 : decode prog_13_method_97_code 44 = .ok (.ireturn, 1) := by decide +kernel
theorem d_X11_count_45 : decode prog_13_method_97_code 45 = .ok (.aload_n 0, 1) := by decide +kernel
theorem d_X11_count_46 : decode prog_13_method_97_code 46 = .ok (.getfield 172, 3) := by decide +kernel
theorem d_X11_count_49 : decode prog_13_method_97_code 49 = .ok (.ireturn, 1) := by decide +kernel
theorem d_X11_count_50 : decode prog_13_method_97_code 50 = .ok (.aload_n 0, 1) := by decide +kernel
theorem d_X11_count_51 : decode prog_13_method_97_code 51 = .ok (.getfield 197, 3) := by decide +kernel
theorem d_X11_count_54 : decode prog_13_method_97_code 54 = .ok (.ireturn, 1) := by decide +kernel
theorem d_X11_count_55 : decode prog_13_method_97_code 55 = .ok (.iconst 0, 1) := by decide +kernel
theorem d_X11_count_56 : decode prog_13_method_97_code 56 = .ok (.istore_n 3, 1) := by decide +kernel
theorem d_X11_count_57 : decode prog_13_method_97_code 57 = .ok (.iload_n 3, 1) := by decide +kernel
theorem d_X11_count_58 : decode prog_13_method_97_code 58 = .ok (.iconst 5, 1) := by decide +kernel
theorem d_X11_count_59 : decode prog_13_method_97_code 59 = .ok (.if_icmp .ge 27, 3) := by decide +kernel
theorem d_X11_count_62 : decode prog_13_method_97_code 62 = .ok (.iload_n 2, 1) := by decide +kernel
theorem d_X11_count_63 : decode prog_13_method_97_code 63 = .ok (.aload_n 0, 1) := by decide +kernel
theorem d_X11_count_64 : decode prog_13_method_97_code 64 = .ok (.iload_n 3, 1) := by decide +kernel
theorem d_X11_count_65 : decode prog_13_method_97_code 65 = .ok (.invokevirtual 187, 3) := by decide +kernel
theorem d_X11_count_68 : decode prog_13_method_97_code 68 = .ok (.ifCond .lt 9, 3) := by decide +kernel
theorem d_X11_count_71 : decode prog_13_method_97_code 71 = .ok (.iconst 1, 1) := by decide +kernel
theorem d_X11_count_72 : decode prog_13_method_97_code 72 = .ok (.iload_n 3, 1) := by decide +kernel
theorem d_X11_count_73 : decode prog_13_method_97_code 73 = .ok (.ishl, 1) := by decide +kernel
theorem d_X11_count_74 : decode prog_13_method_97_code 74 = .ok (.goto 4, 3) := by decide +kernel
theorem d_X11_count_77 : decode prog_13_method_97_code 77 = .ok (.iconst 0, 1) := by decide +kernel
theorem d_X11_count_78 : decode prog_13_method_97_code 78 = .ok (.ior, 1) := by decide +kernel
theorem d_X11_count_79 : decode prog_13_method_97_code 79 = .ok (.istore_n 2, 1) := by decide +kernel
theorem d_X11_count_80 : decode prog_13_method_97_code 80 = .ok (.iinc 3 1, 3) := by decide +kernel
theorem d_X11_count_83 : decode prog_13_method_97_code 83 = .ok (.goto (-26), 3) := by decide +kernel
theorem d_X11_count_86 : decode prog_13_method_97_code 86 = .ok (.iload_n 2, 1) := by decide +kernel
theorem d_X11_count_87 : decode prog_13_method_97_code 87 = .ok (.ireturn, 1) := by decide +kernel
theorem d_X11_count_88 : decode prog_13_method_97_code 88 = .ok (.iconst 0, 1) := by decide +kernel
theorem d_X11_count_89 : decode prog_13_method_97_code 89 = .ok (.istore_n 3, 1) := by decide +kernel
theorem d_X11_count_90 : decode prog_13_method_97_code 90 = .ok (.iload_n 3, 1) := by decide +kernel
theorem d_X11_count_91 : decode prog_13_method_97_code 91 = .ok (.iconst 4, 1) := by decide +kernel
theorem d_X11_count_92 : decode prog_13_method_97_code 92 = .ok (.if_icmp .ge 26, 3) := by decide +kernel
theorem d_X11_count_95 : decode prog_13_method_97_code 95 = .ok (.iload_n 2, 1) := by decide +kernel
theorem d_X11_count_96 : decode prog_13_method_97_code 96 = .ok (.aload_n 0, 1) := by decide +kernel
theorem d_X11_count_97 : decode prog_13_method_97_code 97 = .ok (.getfield 155, 3) := by decide +kernel
theorem d_X11_count_100 : decode prog_13_method_97_code 100 = .ok (.iload_n 3, 1) := by decide +kernel
theorem d_X11_count_101 : decode prog_13_method_97_code 101 = .ok (.iaload, 1) := by decide +kernel
theorem d_X11_count_102 : decode prog_13_method_97_code 102 = .ok (.ifCond .lt 7, 3) := by decide +kernel
theorem d_X11_count_105 : decode prog_13_method_97_code 105 = .ok (.iconst 1, 1) := by decide +kernel
theorem d_X11_count_106 : decode prog_13_method_97_code 106 = .ok (.goto 4, 3) := by decide +kernel
theorem d_X11_count_109 : decode prog_13_method_97_code 109 = .ok (.iconst 0, 1) := by decide +kernel
theorem d_X11_count_110 : decode prog_13_method_97_code 110 = .ok (.iadd, 1) := by decide +kernel
theorem d_X11_count_111 : decode prog_13_method_97_code 111 = .ok (.istore_n 2, 1) := by decide +kernel
theorem d_X11_count_112 : decode prog_13_method_97_code 112 = .ok (.iinc 3 1, 3) := by decide +kernel
theorem d_X11_count_115 : decode prog_13_method_97_code 115 = .ok (.goto (-25), 3) := by decide +kernel
theorem d_X11_count_118 : decode prog_13_method_97_code 118 = .ok (.iload_n 2, 1) := by decide +kernel
theorem d_X11_count_119 : decode prog_13_method_97_code 119 = .ok (.ireturn, 1) := by decide +kernel
theorem d_X11_count_120 : decode prog_13_method_97_code 120 = .ok (.aload_n 0, 1) := by decide +kernel
theorem d_X11_count_121 : decode prog_13_method_97_code 121 = .ok (.getfield 179, 3) := by decide +kernel
theorem d_X11_count_124 : decode prog_13_method_97_code 124 = .ok (.ifCond .eq 7, 3) := by decide +kernel
theorem d_X11_count_127 : decode prog_13_method_97_code 127 = .ok (.iconst 1, 1) := by decide +kernel
theorem d_X11_count_128 : decode prog_13_method_97_code 128 = .ok (.goto 4, 3) := by decide +kernel
theorem d_X11_count_131 : decode prog_13_method_97_code 131 = .ok (.iconst 0, 1) := by decide +kernel
theorem d_X11_count_132 : decode prog_13_method_97_code 132 = .ok (.ireturn, 1) := by decide +kernel
theorem d_X11_count_133 : decode prog_13_method_97_code 133 = .ok (.iconst (-1), 1) := by decide +kernel
theorem d_X11_count_134 : decode prog_13_method_97_code 134 = .ok (.ireturn, 1) := by decide +kernel
def f_X11_count_78 (rec_57 : Int → Int → Option (Int)) (x3 : Int) (s0 : Int) (s1 : Int) (M0 : tp_M) : Option (Int) :=
  tp_lt ((tp_or s1 s0)) fun y9 =>
  tp_lt (tp_w (x3 + 1)) fun y10 =>
  rec_57 y9 y10
set_option maxHeartbeats 4000000 in
set_option maxRecDepth 100000 in
theorem T_X11_count_78 (G : tp_G) (rec_57 : Int → Int → Option (Int)) (x3 : Int) (s0 : Int) (s1 : Int) (M0 : tp_M) (hrec_57 : ∀ (x2' x3' : Int), tp_J i_X11_count (tp_rm 2) G 0 0 (o_X11_count M0) tp_NC (tp_st M0) 0 0 [some (.inr (.inr 483)), none, some (.inl (x2')), some (.inl (x3'))] 57 [] (rec_57 x2' x3')) : tp_J i_X11_count (tp_rm 2) G 0 0 (o_X11_count M0) tp_NC (tp_st M0) 0 0 [some (.inr (.inr 483)), none, none, some (.inl x3)] 78 [.inl s0, .inl s1] (f_X11_count_78 rec_57 x3 s0 s1 M0) := by
  unfold f_X11_count_78
  refine j_ior d_X11_count_78 ?_
  refine j_nmI (fun y9 hy9 => ?_)
  refine j_istore_n (lv' := [some (.inr (.inr 483)), none, some (.inl y9), some (.inl x3)]) rfl d_X11_count_79 (Nat.le_of_ble_eq_true rfl) rfl ?_
  refine j_iincN (lv' := fun y10 => [some (.inr (.inr 483)), none, some (.inl y9), some (.inl y10)]) d_X11_count_80 rfl (Nat.le_of_ble_eq_true rfl) (fun _ => rfl) (fun y10 hy10 => ?_)
  refine j_goto (tgt := 57) d_X11_count_83 (by decide) ?_
  exact j_wk [true, false, true, true] rfl rfl (hrec_57 y9 y10)
def f_X11_count_57B (M0 : tp_M) (rec_57 : Int → Int → Option (Int)) (x2 : Int) (x3 : Int) : Option (Int) :=
  if 5 ≤ x3 then
    some x2
  else
    (f_X11_degreeOf x3 M0).bind fun r6 =>
    if r6 < 0 then
      f_X11_count_78 rec_57 x3 0 x2 M0
    else
      f_X11_count_78 rec_57 x3 (tp_shl 1 x3) x2 M0
set_option maxHeartbeats 4000000 in
set_option maxRecDepth 100000 in
theorem T_X11_count_57B (G : tp_G) (M0 : tp_M) (rec_57 : Int → Int → Option (Int)) (hrec_57 : ∀ (x2' x3' : Int), tp_J i_X11_count (tp_rm 2) G 0 0 (o_X11_count M0) tp_NC (tp_st M0) 0 0 [some (.inr (.inr 483)), none, some (.inl (x2')), some (.inl (x3'))] 57 [] (rec_57 x2' x3')) (x2 : Int) (x3 : Int) : tp_J i_X11_count (tp_rm 2) G 0 0 (o_X11_count M0) tp_NC (tp_st M0) 0 0 [some (.inr (.inr 483)), none, some (.inl x2), some (.inl x3)] 57 [] (f_X11_count_57B M0 rec_57 x2 x3) := by
  unfold f_X11_count_57B
  refine j_iload_n rfl d_X11_count_57 rfl ?_
  refine j_iconst ⟨by decide, by decide⟩ d_X11_count_58 ?_
  refine j_icmp_ge (tgt := 86) d_X11_count_59 (by decide) (fun h5 => ?_) (fun h5 => ?_)
  · refine j_iload_n rfl d_X11_count_86 rfl ?_
    exact j_iret d_X11_count_87 rfl rfl ⟨rfl, rfl⟩
  · refine j_iload_n rfl d_X11_count_62 rfl ?_
    refine j_aload_n rfl d_X11_count_63 rfl ?_
    refine j_iload_n rfl d_X11_count_64 rfl ?_
    refine j_bind (fun r6 h7 => ?_)
    refine j_callV (y := y_X11_degreeOf) (I' := i_X11_degreeOf) (avs := [.inl x3]) (c := 483) (st := [.inl x2]) (c_X11_degreeOf G x3 M0 r6 h7) cs_Model_187 wd_1290 wd_1292 ws_45 tg_483 rfl rfl rfl (Nat.le_of_ble_eq_true rfl) ⟨rfl, rfl⟩ ⟨by decide, by decide⟩ ⟨by decide, by decide⟩ d_X11_count_65 ?_
    refine j_if_lt (tgt := 77) d_X11_count_68 (by decide) (fun h8 => ?_) (fun h8 => ?_)
    · refine j_iconst ⟨by decide, by decide⟩ d_X11_count_77 ?_
      exact j_wk [true, false, false, true] rfl rfl (T_X11_count_78 G rec_57 x3 0 x2 M0 hrec_57)
    · refine j_iconst ⟨by decide, by decide⟩ d_X11_count_71 ?_
      refine j_iload_n rfl d_X11_count_72 rfl ?_
      refine j_ishl d_X11_count_73 ?_
      refine j_goto (tgt := 78) d_X11_count_74 (by decide) ?_
      exact j_wk [true, false, false, true] rfl rfl (T_X11_count_78 G rec_57 x3 (tp_shl 1 x3) x2 M0 hrec_57)
def f_X11_count_57 (x2 : Int) (x3 : Int) (M0 : tp_M) : Option (Int) := tp_lp (σ := Int × Int) (fun rec_ u => f_X11_count_57B M0 (fun x2' x3' => rec_ (x2', x3')) u.1 u.2) tp_N (x2, x3)
set_option maxHeartbeats 4000000 in
set_option maxRecDepth 100000 in
theorem T_X11_count_57 (G : tp_G) (x2 : Int) (x3 : Int) (M0 : tp_M) : tp_J i_X11_count (tp_rm 2) G 0 0 (o_X11_count M0) tp_NC (tp_st M0) 0 0 [some (.inr (.inr 483)), none, some (.inl x2), some (.inl x3)] 57 [] (f_X11_count_57 x2 x3 M0) := by
  unfold f_X11_count_57
  exact j_lp (σ := Int × Int) (n' := fun _ => tp_NC) (g' := fun u => tp_st M0) (k' := fun _ => 0) (q' := fun _ => 0) (lv' := fun u => [some (.inr (.inr 483)), none, some (.inl u.1), some (.inl u.2)]) (fun rec_ hrec u => T_X11_count_57B G M0 (fun x2' x3' => rec_ (x2', x3')) (fun x2' x3' => hrec (x2', x3')) u.1 u.2) tp_N (x2, x3)
def f_X11_count_110 (rec_90 : Int → Int → Option (Int)) (x3 : Int) (s0 : Int) (s1 : Int) (M0 : tp_M) : Option (Int) :=
  tp_lt ((tp_w (s1 + s0))) fun y14 =>
  tp_lt (tp_w (x3 + 1)) fun y15 =>
  rec_90 y14 y15
set_option maxHeartbeats 4000000 in
set_option maxRecDepth 100000 in
theorem T_X11_count_110 (G : tp_G) (rec_90 : Int → Int → Option (Int)) (x3 : Int) (s0 : Int) (s1 : Int) (M0 : tp_M) (hrec_90 : ∀ (x2' x3' : Int), tp_J i_X11_count (tp_rm 2) G 0 0 (o_X11_count M0) tp_NC (tp_st M0) 0 0 [some (.inr (.inr 483)), none, some (.inl (x2')), some (.inl (x3'))] 90 [] (rec_90 x2' x3')) : tp_J i_X11_count (tp_rm 2) G 0 0 (o_X11_count M0) tp_NC (tp_st M0) 0 0 [some (.inr (.inr 483)), none, none, some (.inl x3)] 110 [.inl s0, .inl s1] (f_X11_count_110 rec_90 x3 s0 s1 M0) := by
  unfold f_X11_count_110
  refine j_iadd d_X11_count_110 ?_
  refine j_nmI (fun y14 hy14 => ?_)
  refine j_istore_n (lv' := [some (.inr (.inr 483)), none, some (.inl y14), some (.inl x3)]) rfl d_X11_count_111 (Nat.le_of_ble_eq_true rfl) rfl ?_
  refine j_iincN (lv' := fun y15 => [some (.inr (.inr 483)), none, some (.inl y14), some (.inl y15)]) d_X11_count_112 rfl (Nat.le_of_ble_eq_true rfl) (fun _ => rfl) (fun y15 hy15 => ?_)
  refine j_goto (tgt := 90) d_X11_count_115 (by decide) ?_
  exact j_wk [true, false, true, true] rfl rfl (hrec_90 y14 y15)
def f_X11_count_90B (M0 : tp_M) (rec_90 : Int → Int → Option (Int)) (x2 : Int) (x3 : Int) : Option (Int) :=
  if 4 ≤ x3 then
    some x2
  else
    if 0 ≤ x3 ∧ x3 < 4 then
      if (M0 532 x3) < 0 then
        f_X11_count_110 rec_90 x3 0 x2 M0
      else
        f_X11_count_110 rec_90 x3 1 x2 M0 else none
set_option maxHeartbeats 4000000 in
set_option maxRecDepth 100000 in
theorem T_X11_count_90B (G : tp_G) (M0 : tp_M) (rec_90 : Int → Int → Option (Int)) (hrec_90 : ∀ (x2' x3' : Int), tp_J i_X11_count (tp_rm 2) G 0 0 (o_X11_count M0) tp_NC (tp_st M0) 0 0 [some (.inr (.inr 483)), none, some (.inl (x2')), some (.inl (x3'))] 90 [] (rec_90 x2' x3')) (x2 : Int) (x3 : Int) : tp_J i_X11_count (tp_rm 2) G 0 0 (o_X11_count M0) tp_NC (tp_st M0) 0 0 [some (.inr (.inr 483)), none, some (.inl x2), some (.inl x3)] 90 [] (f_X11_count_90B M0 rec_90 x2 x3) := by
  unfold f_X11_count_90B
  refine j_iload_n rfl d_X11_count_90 rfl ?_
  refine j_iconst ⟨by decide, by decide⟩ d_X11_count_91 ?_
  refine j_icmp_ge (tgt := 118) d_X11_count_92 (by decide) (fun h12 => ?_) (fun h12 => ?_)
  · refine j_iload_n rfl d_X11_count_118 rfl ?_
    exact j_iret d_X11_count_119 rfl rfl ⟨rfl, rfl⟩
  · refine j_iload_n rfl d_X11_count_95 rfl ?_
    refine j_aload_n rfl d_X11_count_96 rfl ?_
    refine j_getr fl_Model_155 tg_483 rv_483_64 d_X11_count_97 ?_
    refine j_iload_n rfl d_X11_count_100 rfl ?_
    refine j_iald tg_532 al_532 d_X11_count_101 ?_
    refine j_if_lt (tgt := 109) d_X11_count_102 (by decide) (fun h13 => ?_) (fun h13 => ?_)
    · refine j_iconst ⟨by decide, by decide⟩ d_X11_count_109 ?_
      exact j_wk [true, false, false, true] rfl rfl (T_X11_count_110 G rec_90 x3 0 x2 M0 hrec_90)
    · refine j_iconst ⟨by decide, by decide⟩ d_X11_count_105 ?_
      refine j_goto (tgt := 110) d_X11_count_106 (by decide) ?_
      exact j_wk [true, false, false, true] rfl rfl (T_X11_count_110 G rec_90 x3 1 x2 M0 hrec_90)
def f_X11_count_90 (x2 : Int) (x3 : Int) (M0 : tp_M) : Option (Int) := tp_lp (σ := Int × Int) (fun rec_ u => f_X11_count_90B M0 (fun x2' x3' => rec_ (x2', x3')) u.1 u.2) tp_N (x2, x3)
set_option maxHeartbeats 4000000 in
set_option maxRecDepth 100000 in
theorem T_X11_count_90 (G : tp_G) (x2 : Int) (x3 : Int) (M0 : tp_M) : tp_J i_X11_count (tp_rm 2) G 0 0 (o_X11_count M0) tp_NC (tp_st M0) 0 0 [some (.inr (.inr 483)), none, some (.inl x2), some (.inl x3)] 90 [] (f_X11_count_90 x2 x3 M0) := by
  unfold f_X11_count_90
  exact j_lp (σ := Int × Int) (n' := fun _ => tp_NC) (g' := fun u => tp_st M0) (k' := fun _ => 0) (q' := fun _ => 0) (lv' := fun u => [some (.inr (.inr 483)), none, some (.inl u.1), some (.inl u.2)]) (fun rec_ hrec u => T_X11_count_90B G M0 (fun x2' x3' => rec_ (x2', x3')) (fun x2' x3' => hrec (x2', x3')) u.1 u.2) tp_N (x2, x3)
def f_X11_count (a0 : Int) (M0 : tp_M) : Option (Int) :=
  if a0 = 0 then
    some (M0 483 0)
  else if a0 = 1 then
    some (M0 483 1)
  else if a0 = 2 then
    some (M0 483 5)
  else if a0 = 3 then
    f_X11_count_57 0 0 M0
  else if a0 = 4 then
    f_X11_count_90 0 0 M0
  else if a0 = 5 then
    if (M0 483 18) = 0 then
      some 0
    else
      some 1
  else 
    some (-1)
set_option maxHeartbeats 4000000 in
set_option maxRecDepth 100000 in
theorem T_X11_count (G : tp_G) (a0 : Int) (M0 : tp_M) : tp_J i_X11_count (tp_rm 2) G 0 0 (o_X11_count M0) tp_NC (tp_st M0) 0 0 [some (.inr (.inr 483)), some (.inl a0), none, none] 0 [] (f_X11_count a0 M0) := by
  unfold f_X11_count
  refine j_iconst ⟨by decide, by decide⟩ d_X11_count_0 ?_
  refine j_istore_n (lv' := [some (.inr (.inr 483)), some (.inl a0), some (.inl 0), none]) rfl d_X11_count_1 (Nat.le_of_ble_eq_true rfl) rfl ?_
  refine j_iload_n rfl d_X11_count_2 rfl ?_
  refine tp_ite (fun h1 => ?_) (fun h1 => ?_)
  · refine j_tsin (tgt := 40) d_X11_count_3 (by omega) (by omega) (off := 37) (by rw [h1]; decide +kernel) (by decide) ?_
    refine j_aload_n rfl d_X11_count_40 rfl ?_
    refine j_geti fl_Model_168 tg_483 d_X11_count_41 ?_
    exact j_iret d_X11_count_44 rfl rfl ⟨rfl, rfl⟩
  refine tp_ite (fun h2 => ?_) (fun h2 => ?_)
  · refine j_tsin (tgt := 45) d_X11_count_3 (by omega) (by omega) (off := 42) (by rw [h2]; decide +kernel) (by decide) ?_
    refine j_aload_n rfl d_X11_count_45 rfl ?_
    refine j_geti fl_Model_172 tg_483 d_X11_count_46 ?_
    exact j_iret d_X11_count_49 rfl rfl ⟨rfl, rfl⟩
  refine tp_ite (fun h3 => ?_) (fun h3 => ?_)
  · refine j_tsin (tgt := 50) d_X11_count_3 (by omega) (by omega) (off := 47) (by rw [h3]; decide +kernel) (by decide) ?_
    refine j_aload_n rfl d_X11_count_50 rfl ?_
    refine j_geti fl_Model_197 tg_483 d_X11_count_51 ?_
    exact j_iret d_X11_count_54 rfl rfl ⟨rfl, rfl⟩
  refine tp_ite (fun h4 => ?_) (fun h4 => ?_)
  · refine j_tsin (tgt := 55) d_X11_count_3 (by omega) (by omega) (off := 52) (by rw [h4]; decide +kernel) (by decide) ?_
    refine j_iconst ⟨by decide, by decide⟩ d_X11_count_55 ?_
    refine j_istore_n (lv' := [some (.inr (.inr 483)), some (.inl a0), some (.inl 0), some (.inl 0)]) rfl d_X11_count_56 (Nat.le_of_ble_eq_true rfl) rfl ?_
    exact j_wk [true, false, true, true] rfl rfl (T_X11_count_57 G 0 0 M0)
  refine tp_ite (fun h11 => ?_) (fun h11 => ?_)
  · refine j_tsin (tgt := 88) d_X11_count_3 (by omega) (by omega) (off := 85) (by rw [h11]; decide +kernel) (by decide) ?_
    refine j_iconst ⟨by decide, by decide⟩ d_X11_count_88 ?_
    refine j_istore_n (lv' := [some (.inr (.inr 483)), some (.inl a0), some (.inl 0), some (.inl 0)]) rfl d_X11_count_89 (Nat.le_of_ble_eq_true rfl) rfl ?_
    exact j_wk [true, false, true, true] rfl rfl (T_X11_count_90 G 0 0 M0)
  refine tp_ite (fun h16 => ?_) (fun h16 => ?_)
  · refine j_tsin (tgt := 120) d_X11_count_3 (by omega) (by omega) (off := 117) (by rw [h16]; decide +kernel) (by decide) ?_
    refine j_aload_n rfl d_X11_count_120 rfl ?_
    refine j_geti fl_Model_179 tg_483 d_X11_count_121 ?_
    refine j_if_eq (tgt := 131) d_X11_count_124 (by decide) (fun h17 => ?_) (fun h17 => ?_)
    · refine j_iconst ⟨by decide, by decide⟩ d_X11_count_131 ?_
      exact j_iret d_X11_count_132 rfl rfl ⟨rfl, rfl⟩
    · refine j_iconst ⟨by decide, by decide⟩ d_X11_count_127 ?_
      refine j_goto (tgt := 132) d_X11_count_128 (by decide) ?_
      exact j_iret d_X11_count_132 rfl rfl ⟨rfl, rfl⟩
  refine j_tsout (tgt := 133) d_X11_count_3 (by omega) (by decide) ?_
  refine j_iconst ⟨by decide, by decide⟩ d_X11_count_133 ?_
  exact j_iret d_X11_count_134 rfl rfl ⟨rfl, rfl⟩
set_option maxHeartbeats 4000000 in
set_option maxRecDepth 100000 in
theorem c_X11_count (G : tp_G) (a0 : Int) (M0 : tp_M) (r : Int) (h : f_X11_count a0 M0 = some r) (l : Launch) : Met l y_X11_count (tp_ws y_X11_count i_X11_count) (tp_rm 2) (tp_Pc G [.inr (.inr 483), .inl a0] tp_NC (tp_st M0)) (tp_Q G ((o_X11_count M0) r)) 0 0 (tp_A G) :=
  tp_met (I := i_X11_count) (y := y_X11_count) (by decide +kernel) (Eq.refl "TypesAtPrimeModel") (Eq.refl "count") (lv := [some (.inr (.inr 483)), some (.inl a0), none, none]) rfl (Nat.le_of_ble_eq_true rfl) (T_X11_count G a0 M0) h l
