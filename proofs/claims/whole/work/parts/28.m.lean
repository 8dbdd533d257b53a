def y_X11_times : MethodName := ⟨"TypesAtPrimeModel", "times", "(III)I"⟩
abbrev i_X11_times : tp_I := (prog_13_method_27_code, "TypesAtPrimeModel", (some .int), 8, "times")
abbrev o_X11_times : Int × tp_M → tp_O := fun r => (some (.inl r.1), tp_NC, tp_st r.2)
theorem d_X11_times_0 : decode prog_13_method_27_code 0 = .ok (.iload_n 1, 1) := by decide +kernel
theorem d_X11_times_1 : decode prog_13_method_27_code 1 = .ok (.invokestatic 231, 3) := by decide +kernel
theorem d_X11_times_4 : decode prog_13_method_27_code 4 = .ok (.ifCond .eq 17, 3) := by decide +kernel
theorem d_X11_times_7 : decode prog_13_method_27_code 7 = .ok (.iload_n 2, 1) := by decide +kernel
theorem d_X11_times_8 : decode prog_13_method_27_code 8 = .ok (.invokestatic 231, 3) := by decide +kernel
theorem d_X11_times_11 : decode prog_13_method_27_code 11 = .ok (.ifCond .eq 10, 3) := by decide +kernel
theorem d_X11_times_14 : decode prog_13_method_27_code 14 = .ok (.iload_n 3, 1) := by decide +kernel
theorem d_X11_times_15 : decode prog_13_method_27_code 15 = .ok (.invokestatic 231, 3) := by decide +kernel
theorem d_X11_times_18 : decode prog_13_method_27_code 18 = .ok (.ifCond .ne 5, 3) := by decide +kernel
theorem d_X11_times_21 : decode prog_13_method_27_code 21 = .ok (.iconst (-1), 1) := by decide +kernel
theorem d_X11_times_22 : decode prog_13_method_27_code 22 = .ok (.ireturn, 1) := by decide +kernel
theorem d_X11_times_23 : decode prog_13_method_27_code 23 = .ok (.aload_n 0, 1) := by decide +kernel
theorem d_X11_times_24 : decode prog_13_method_27_code 24 = .ok (.iload_n 1, 1) := by decide +kernel
theorem d_X11_times_25 : decode prog_13_method_27_code 25 = .ok (.invokevirtual 187, 3) := by decide +kernel
theorem d_X11_times_28 : decode prog_13_method_27_code 28 = .ok (.istore 4, 2) := by decide +kernel
theorem d_X11_times_30 : decode prog_13_method_27_code 30 = .ok (.aload_n 0, 1) := by decide +kernel
theorem d_X11_times_31 : decode prog_13_method_27_code 31 = .ok (.iload_n 2, 1) := by decide +kernel
theorem d_X11_times_32 : decode prog_13_method_27_code 32 = .ok (.invokevirtual 187, 3) := by decide +kernel
theorem d_X11_times_35 : decode prog_13_method_27_code 35 = .ok (.istore 5, 2) := by decide +kernel
theorem d_X11_times_37 : decode prog_13_method_27_code 37 = .ok (.iload 4, 2) := by decide +kernel
theorem d_X11_times_39 : decode prog_13_method_27_code 39 = .ok (.ifCond .lt 21, 3) := by decide +kernel
theorem d_X11_times_42 : decode prog_13_method_27_code 42 = .ok (.iload 5, 2) := by decide +kernel
theorem d_X11_times_44 : decode prog_13_method_27_code 44 = .ok (.ifCond .lt 16, 3) := by decide +kernel
theorem d_X11_times_47 : decode prog_13_method_27_code 47 = .ok (.iload 4, 2) := by decide +kernel
theorem d_X11_times_49 : decode prog_13_method_27_code 49 = .ok (.iload 5, 2) := by decide +kernel
theorem d_X11_times_51 : decode prog_13_method_27_code 51 = .ok (.iadd, 1) := by decide +kernel
theorem d_X11_times_52 : decode prog_13_method_27_code 52 = .ok (.bipush 8, 2) := by decide +kernel
theorem d_X11_times_54 : decode prog_13_method_27_code 54 = .ok (.if_icmp .le 6, 3) := by decide +kernel
theorem d_X11_times_57 : decode prog_13_method_27_code 57 = .ok (.bipush (-6), 2) := by decide +kernel
theorem d_X11_times_59 : decode prog_13_method_27_code 59 = .ok (.ireturn, 1) := by decide +kernel
theorem d_X11_times_60 : decode prog_13_method_27_code 60 = .ok (.iconst 0, 1) := by decide +kernel
theorem d_X11_times_61 : decode prog_13_method_27_code 61 = .ok (.istore 6, 2) := by decide +kernel
theorem d_X11_times_63 : decode prog_13_method_27_code 63 = .ok (.iload 6, 2) := by decide +kernel
theorem d_X11_times_65 : decode prog_13_method_27_code 65 = .ok (.bipush 9, 2) := by decide +kernel
theorem d_X11_times_67 : decode prog_13_method_27_code 67 = .ok (.if_icmp .ge 63, 3) := by decide +kernel
theorem d_X11_times_70 : decode prog_13_method_27_code 70 = .ok (.aload_n 0, 1) := by decide +kernel
theorem d_X11_times_71 : decode prog_13_method_27_code 71 = .ok (.getfield 16, 3) := by decide +kernel
theorem d_X11_times_74 : decode prog_13_method_27_code 74 = .ok (.iload 6, 2) := by decide +kernel
theorem d_X11_times_76 : decode prog_13_method_27_code 76 = .ok (.lconst 0, 1) := by decide +kernel
theorem d_X11_times_77 : decode prog_13_method_27_code 77 = .ok (.lastore, 1) := by decide +kernel
theorem d_X11_times_78 : decode prog_13_method_27_code 78 = .ok (.iconst 0, 1) := by decide +kernel
theorem d_X11_times_79 : decode prog_13_method_27_code 79 = .ok (.istore 7, 2) := by decide +kernel
theorem d_X11_times_81 : decode prog_13_method_27_code 81 = .ok (.iload 7, 2) := by decide +kernel
theorem d_X11_times_83 : decode prog_13_method_27_code 83 = .ok (.iload 6, 2) := by decide +kernel
theorem d_X11_times_85 : decode prog_13_method_27_code 85 = .ok (.if_icmp .gt 39, 3) := by decide +kernel
theorem d_X11_times_88 : decode prog_13_method_27_code 88 = .ok (.aload_n 0, 1) := by decide +kernel
theorem d_X11_times_89 : decode prog_13_method_27_code 89 = .ok (.getfield 16, 3) := by decide +kernel
theorem d_X11_times_92 : decode prog_13_method_27_code 92 = .ok (.iload 6, 2) := by decide +kernel
theorem d_X11_times_94 : decode prog_13_method_27_code 94 = .ok (.dup2, 1) := by decide +kernel
theorem d_X11_times_95 : decode prog_13_method_27_code 95 = .ok (.laload, 1) := by decide +kernel
theorem d_X11_times_96 : decode prog_13_method_27_code 96 = .ok (.aload_n 0, 1) := by decide +kernel
theorem d_X11_times_97 : decode prog_13_method_27_code 97 = .ok (.iload_n 1, 1) := by decide +kernel
theorem d_X11_times_98 : decode prog_13_method_27_code 98 = .ok (.iload 7, 2) := by decide +kernel
theorem d_X11_times_100 : decode prog_13_method_27_code 100 = .ok (.invokevirtual 183, 3) := by decide +kernel
theorem d_X11_times_103 : decode prog_13_method_27_code 103 = .ok (.i2l, 1) := by decide +kernel
theorem d_X11_times_104 : decode prog_13_method_27_code 104 = .ok (.aload_n 0, 1) := by decide +kernel
theorem d_X11_times_105 : decode prog_13_method_27_code 105 = .ok (.iload_n 2, 1) := by decide +kernel
theorem d_X11_times_106 : decode prog_13_method_27_code 106 = .ok (.iload 6, 2) := by decide +kernel
theorem d_X11_times_108 : decode prog_13_method_27_code 108 = .ok (.iload 7, 2) := by decide +kernel
theorem d_X11_times_110 : decode prog_13_method_27_code 110 = .ok (.isub, 1) := by decide +kernel
theorem d_X11_times_111 : decode prog_13_method_27_code 111 = .ok (.invokevirtual 183, 3) := by decide +kernel
theorem d_X11_times_114 : decode prog_13_method_27_code 114 = .ok (.i2l, 1) := by decide +kernel
theorem d_X11_times_115 : decode prog_13_method_27_code 115 = .ok (.lmul, 1) := by decide +kernel
theorem d_X11_times_116 : decode prog_13_method_27_code 116 = .ok (.ladd, 1) := by decide +kernel
theorem d_X11_times_117 : decode prog_13_method_27_code 117 = .ok (.lastore, 1) := by decide +kernel
theorem d_X11_times_118 : decode prog_13_method_27_code 118 = .ok (.iinc 7 1, 3) := by decide +kernel
theorem d_X11_times_121 : decode prog_13_method_27_code 121 = .ok (.goto (-40), 3) := by decide +kernel
theorem d_X11_times_124 : decode prog_13_method_27_code 124 = .ok (.iinc 6 1, 3) := by decide +kernel
theorem d_X11_times_127 : decode prog_13_method_27_code 127 = .ok (.goto (-64), 3) := by decide +kernel
theorem d_X11_times_130 : decode prog_13_method_27_code 130 = .ok (.aload_n 0, 1) := by decide +kernel
theorem d_X11_times_131 : decode prog_13_method_27_code 131 = .ok (.iload_n 3, 1) := by decide +kernel
theorem d_X11_times_132 : decode prog_13_method_27_code 132 = .ok (.invokevirtual 237, 3) := by decide +kernel
theorem d_X11_times_135 : decode prog_13_method_27_code 135 = .ok (.ifCond .eq 7, 3) := by decide +kernel
theorem d_X11_times_138 : decode prog_13_method_27_code 138 = .ok (.iconst 1, 1) := by decide +kernel
theorem d_X11_times_139 : decode prog_13_method_27_code 139 = .ok (.goto 5, 3) := by decide +kernel
theorem d_X11_times_142 : decode prog_13_method_27_code 142 = .ok (.bipush (-3), 2) := by decide +kernel
theorem d_X11_times_144 : decode prog_13_method_27_code 144 = .ok (.ireturn, 1) := by decide +kernel
def f_X11_times_81B (rec_63 : Int → tp_M → Option (Int × tp_M)) (x1 : Int) (x2 : Int) (x3 : Int) (x6 : Int) (rec_81 : Int → tp_M → Option (Int × tp_M)) (x7 : Int) (M0 : tp_M) : Option (Int × tp_M) :=
  if x6 < x7 then
    tp_lt (tp_w (x6 + 1)) fun y21 =>
    rec_63 y21 M0
  else
    if 0 ≤ x6 ∧ x6 < 9 then
      (f_X11_coefficient x1 x7 M0).bind fun r22 =>
      (f_X11_coefficient x2 (tp_w (x6 - x7)) M0).bind fun r24 =>
      if 0 ≤ x6 ∧ x6 < 9 then
        tp_mp (tp_up M0 486 x6 (tp_wl ((M0 486 x6) + (tp_wl (r22 * r24))))) fun M26 =>
        tp_lt (tp_w (x7 + 1)) fun y27 =>
        rec_81 y27 M26 else none else none
set_option maxHeartbeats 4000000 in
set_option maxRecDepth 100000 in
theorem T_X11_times_81B (G : tp_G) (rec_63 : Int → tp_M → Option (Int × tp_M)) (x1 : Int) (x2 : Int) (x3 : Int) (x6 : Int) (hrec_63 : ∀ (x6' : Int) (M' : tp_M), tp_J i_X11_times (tp_rm 2) G 0 0 o_X11_times tp_NC (tp_st M') 0 0 [some (.inr (.inr 483)), some (.inl x1), some (.inl x2), some (.inl x3), none, none, some (.inl (x6')), none] 63 [] (rec_63 x6' M')) (rec_81 : Int → tp_M → Option (Int × tp_M)) (hrec_81 : ∀ (x7' : Int) (M' : tp_M), tp_J i_X11_times (tp_rm 2) G 0 0 o_X11_times tp_NC (tp_st M') 0 0 [some (.inr (.inr 483)), some (.inl x1), some (.inl x2), some (.inl x3), none, none, some (.inl x6), some (.inl (x7'))] 81 [] (rec_81 x7' M')) (x7 : Int) (M0 : tp_M) : tp_J i_X11_times (tp_rm 2) G 0 0 o_X11_times tp_NC (tp_st M0) 0 0 [some (.inr (.inr 483)), some (.inl x1), some (.inl x2), some (.inl x3), none, none, some (.inl x6), some (.inl x7)] 81 [] (f_X11_times_81B rec_63 x1 x2 x3 x6 rec_81 x7 M0) := by
  unfold f_X11_times_81B
  refine j_iload d_X11_times_81 rfl ?_
  refine j_iload d_X11_times_83 rfl ?_
  refine j_icmp_gt (tgt := 124) d_X11_times_85 (by decide) (fun h20 => ?_) (fun h20 => ?_)
  · refine j_iincN (lv' := fun y21 => [some (.inr (.inr 483)), some (.inl x1), some (.inl x2), some (.inl x3), none, none, some (.inl y21), some (.inl x7)]) d_X11_times_124 rfl (Nat.le_of_ble_eq_true rfl) (fun _ => rfl) (fun y21 hy21 => ?_)
    refine j_goto (tgt := 63) d_X11_times_127 (by decide) ?_
    exact j_wk [true, true, true, true, false, false, true, false] rfl rfl (hrec_63 y21 M0)
  · refine j_aload_n rfl d_X11_times_88 rfl ?_
    refine j_getr fl_Model_16 tg_483 rv_483_7 d_X11_times_89 ?_
    refine j_iload d_X11_times_92 rfl ?_
    refine j_dup2 d_X11_times_94 (fun G => tp_cat G _) (fun G => tp_cat G _) ?_
    refine j_lald tg_486 al_486 d_X11_times_95 ?_
    refine j_aload_n rfl d_X11_times_96 rfl ?_
    refine j_iload_n rfl d_X11_times_97 rfl ?_
    refine j_iload d_X11_times_98 rfl ?_
    refine j_bind (fun r22 h23 => ?_)
    refine j_callV (y := y_X11_coefficient) (I' := i_X11_coefficient) (avs := [.inl x1, .inl x7]) (c := 483) (st := [.inr (.inl (M0 486 x6)), .inl x6, .inr (.inr 486)]) (c_X11_coefficient G x1 x7 M0 r22 h23) cs_Model_183 wd_1294 wd_1296 ws_46 tg_483 rfl rfl rfl (Nat.le_of_ble_eq_true rfl) ⟨rfl, rfl⟩ ⟨by decide, by decide⟩ ⟨by decide, by decide⟩ d_X11_times_100 ?_
    refine j_i2l d_X11_times_103 ?_
    refine j_aload_n rfl d_X11_times_104 rfl ?_
    refine j_iload_n rfl d_X11_times_105 rfl ?_
    refine j_iload d_X11_times_106 rfl ?_
    refine j_iload d_X11_times_108 rfl ?_
    refine j_isub d_X11_times_110 ?_
    refine j_bind (fun r24 h25 => ?_)
    refine j_callV (y := y_X11_coefficient) (I' := i_X11_coefficient) (avs := [.inl x2, .inl (tp_w (x6 - x7))]) (c := 483) (st := [.inr (.inl r22), .inr (.inl (M0 486 x6)), .inl x6, .inr (.inr 486)]) (c_X11_coefficient G x2 (tp_w (x6 - x7)) M0 r24 h25) cs_Model_183 wd_1294 wd_1296 ws_46 tg_483 rfl rfl rfl (Nat.le_of_ble_eq_true rfl) ⟨rfl, rfl⟩ ⟨by decide, by decide⟩ ⟨by decide, by decide⟩ d_X11_times_111 ?_
    refine j_i2l d_X11_times_114 ?_
    refine j_lmul d_X11_times_115 ?_
    refine j_ladd d_X11_times_116 ?_
    refine j_last tg_486 al_486 d_X11_times_117 (fun M26 hM26 => ?_)
    refine j_iincN (lv' := fun y27 => [some (.inr (.inr 483)), some (.inl x1), some (.inl x2), some (.inl x3), none, none, some (.inl x6), some (.inl y27)]) d_X11_times_118 rfl (Nat.le_of_ble_eq_true rfl) (fun _ => rfl) (fun y27 hy27 => ?_)
    refine j_goto (tgt := 81) d_X11_times_121 (by decide) ?_
    exact j_wk [true, true, true, true, false, false, true, true] rfl rfl (hrec_81 y27 M26)
def f_X11_times_81 (rec_63 : Int → tp_M → Option (Int × tp_M)) (x1 : Int) (x2 : Int) (x3 : Int) (x6 : Int) (x7 : Int) (M0 : tp_M) : Option (Int × tp_M) := tp_lp (σ := Int × tp_M) (fun rec_ u => f_X11_times_81B rec_63 x1 x2 x3 x6 (fun x7' M0' => rec_ (x7', M0')) u.1 u.2) tp_N (x7, M0)
set_option maxHeartbeats 4000000 in
set_option maxRecDepth 100000 in
theorem T_X11_times_81 (G : tp_G) (rec_63 : Int → tp_M → Option (Int × tp_M)) (x1 : Int) (x2 : Int) (x3 : Int) (x6 : Int) (x7 : Int) (M0 : tp_M) (hrec_63 : ∀ (x6' : Int) (M' : tp_M), tp_J i_X11_times (tp_rm 2) G 0 0 o_X11_times tp_NC (tp_st M') 0 0 [some (.inr (.inr 483)), some (.inl x1), some (.inl x2), some (.inl x3), none, none, some (.inl (x6')), none] 63 [] (rec_63 x6' M')) : tp_J i_X11_times (tp_rm 2) G 0 0 o_X11_times tp_NC (tp_st M0) 0 0 [some (.inr (.inr 483)), some (.inl x1), some (.inl x2), some (.inl x3), none, none, some (.inl x6), some (.inl x7)] 81 [] (f_X11_times_81 rec_63 x1 x2 x3 x6 x7 M0) := by
  unfold f_X11_times_81
  exact j_lp (σ := Int × tp_M) (n' := fun _ => tp_NC) (g' := fun u => tp_st u.2) (k' := fun _ => 0) (q' := fun _ => 0) (lv' := fun u => [some (.inr (.inr 483)), some (.inl x1), some (.inl x2), some (.inl x3), none, none, some (.inl x6), some (.inl u.1)]) (fun rec_ hrec u => T_X11_times_81B G rec_63 x1 x2 x3 x6 hrec_63 (fun x7' M0' => rec_ (x7', M0')) (fun x7' M0' => hrec (x7', M0')) u.1 u.2) tp_N (x7, M0)
def f_X11_times_63B (x1 : Int) (x2 : Int) (x3 : Int) (rec_63 : Int → tp_M → Option (Int × tp_M)) (x6 : Int) (M0 : tp_M) : Option (Int × tp_M) :=
  if 9 ≤ x6 then
    (f_X11_takesRead x3 M0).bind fun r16 =>
    if r16.1 = 0 then
      some ((-3), r16.2)
    else
      some (1, r16.2)
  else
    if 0 ≤ x6 ∧ x6 < 9 then
      tp_mp (tp_up M0 486 x6 0) fun M19 =>
      f_X11_times_81 rec_63 x1 x2 x3 x6 0 M19 else none
set_option maxHeartbeats 4000000 in
set_option maxRecDepth 100000 in
theorem T_X11_times_63B (G : tp_G) (x1 : Int) (x2 : Int) (x3 : Int) (rec_63 : Int → tp_M → Option (Int × tp_M)) (hrec_63 : ∀ (x6' : Int) (M' : tp_M), tp_J i_X11_times (tp_rm 2) G 0 0 o_X11_times tp_NC (tp_st M') 0 0 [some (.inr (.inr 483)), some (.inl x1), some (.inl x2), some (.inl x3), none, none, some (.inl (x6')), none] 63 [] (rec_63 x6' M')) (x6 : Int) (M0 : tp_M) : tp_J i_X11_times (tp_rm 2) G 0 0 o_X11_times tp_NC (tp_st M0) 0 0 [some (.inr (.inr 483)), some (.inl x1), some (.inl x2), some (.inl x3), none, none, some (.inl x6), none] 63 [] (f_X11_times_63B x1 x2 x3 rec_63 x6 M0) := by
  unfold f_X11_times_63B
  refine j_iload d_X11_times_63 rfl ?_
  refine j_bipush ⟨by decide, by decide⟩ (by decide +kernel) d_X11_times_65 ?_
  refine j_icmp_ge (tgt := 130) d_X11_times_67 (by decide) (fun h15 => ?_) (fun h15 => ?_)
  · refine j_aload_n rfl d_X11_times_130 rfl ?_
    refine j_iload_n rfl d_X11_times_131 rfl ?_
    refine j_bind (fun r16 h17 => ?_)
    refine j_callV (y := y_X11_takesRead) (I' := i_X11_takesRead) (avs := [.inl x3]) (c := 483) (st := []) (c_X11_takesRead G x3 M0 r16 h17) cs_Model_237 wd_1280 wd_1282 ws_43 tg_483 rfl rfl rfl (Nat.le_of_ble_eq_true rfl) ⟨rfl, rfl⟩ ⟨by decide, by decide⟩ ⟨by decide, by decide⟩ d_X11_times_132 ?_
    refine j_if_eq (tgt := 142) d_X11_times_135 (by decide) (fun h18 => ?_) (fun h18 => ?_)
    · refine j_bipush ⟨by decide, by decide⟩ (by decide +kernel) d_X11_times_142 ?_
      exact j_iret d_X11_times_144 rfl rfl ⟨rfl, rfl⟩
    · refine j_iconst ⟨by decide, by decide⟩ d_X11_times_138 ?_
      refine j_goto (tgt := 144) d_X11_times_139 (by decide) ?_
      exact j_iret d_X11_times_144 rfl rfl ⟨rfl, rfl⟩
  · refine j_aload_n rfl d_X11_times_70 rfl ?_
    refine j_getr fl_Model_16 tg_483 rv_483_7 d_X11_times_71 ?_
    refine j_iload d_X11_times_74 rfl ?_
    refine j_lconst (x := 0) ⟨by decide, by decide⟩ (by decide +kernel) d_X11_times_76 ?_
    refine j_last tg_486 al_486 d_X11_times_77 (fun M19 hM19 => ?_)
    refine j_iconst ⟨by decide, by decide⟩ d_X11_times_78 ?_
    refine j_istore (lv' := [some (.inr (.inr 483)), some (.inl x1), some (.inl x2), some (.inl x3), none, none, some (.inl x6), some (.inl 0)]) d_X11_times_79 (Nat.le_of_ble_eq_true rfl) rfl ?_
    exact j_wk [true, true, true, true, false, false, true, true] rfl rfl (T_X11_times_81 G rec_63 x1 x2 x3 x6 0 M19 hrec_63)
def f_X11_times_63 (x1 : Int) (x2 : Int) (x3 : Int) (x6 : Int) (M0 : tp_M) : Option (Int × tp_M) := tp_lp (σ := Int × tp_M) (fun rec_ u => f_X11_times_63B x1 x2 x3 (fun x6' M0' => rec_ (x6', M0')) u.1 u.2) tp_N (x6, M0)
set_option maxHeartbeats 4000000 in
set_option maxRecDepth 100000 in
theorem T_X11_times_63 (G : tp_G) (x1 : Int) (x2 : Int) (x3 : Int) (x6 : Int) (M0 : tp_M) : tp_J i_X11_times (tp_rm 2) G 0 0 o_X11_times tp_NC (tp_st M0) 0 0 [some (.inr (.inr 483)), some (.inl x1), some (.inl x2), some (.inl x3), none, none, some (.inl x6), none] 63 [] (f_X11_times_63 x1 x2 x3 x6 M0) := by
  unfold f_X11_times_63
  exact j_lp (σ := Int × tp_M) (n' := fun _ => tp_NC) (g' := fun u => tp_st u.2) (k' := fun _ => 0) (q' := fun _ => 0) (lv' := fun u => [some (.inr (.inr 483)), some (.inl x1), some (.inl x2), some (.inl x3), none, none, some (.inl u.1), none]) (fun rec_ hrec u => T_X11_times_63B G x1 x2 x3 (fun x6' M0' => rec_ (x6', M0')) (fun x6' M0' => hrec (x6', M0')) u.1 u.2) tp_N (x6, M0)
def f_X11_times_60 (x1 : Int) (x2 : Int) (x3 : Int) (M0 : tp_M) : Option (Int × tp_M) :=
  f_X11_times_63 x1 x2 x3 0 M0
set_option maxHeartbeats 4000000 in
set_option maxRecDepth 100000 in
theorem T_X11_times_60 (G : tp_G) (x1 : Int) (x2 : Int) (x3 : Int) (M0 : tp_M) : tp_J i_X11_times (tp_rm 2) G 0 0 o_X11_times tp_NC (tp_st M0) 0 0 [some (.inr (.inr 483)), some (.inl x1), some (.inl x2), some (.inl x3), none, none, none, none] 60 [] (f_X11_times_60 x1 x2 x3 M0) := by
  unfold f_X11_times_60
  refine j_iconst ⟨by decide, by decide⟩ d_X11_times_60 ?_
  refine j_istore (lv' := [some (.inr (.inr 483)), some (.inl x1), some (.inl x2), some (.inl x3), none, none, some (.inl 0), none]) d_X11_times_61 (Nat.le_of_ble_eq_true rfl) rfl ?_
  exact j_wk [true, true, true, true, false, false, true, false] rfl rfl (T_X11_times_63 G x1 x2 x3 0 M0)
def f_X11_times (a0 : Int) (a1 : Int) (a2 : Int) (M0 : tp_M) : Option (Int × tp_M) :=
  (f_X11_isSlot a0 M0).bind fun r1 =>
  if r1 = 0 then
    some ((-1), M0)
  else
    (f_X11_isSlot a1 M0).bind fun r4 =>
    if r4 = 0 then
      some ((-1), M0)
    else
      (f_X11_isSlot a2 M0).bind fun r7 =>
      if ¬ r7 = 0 then
        (f_X11_degreeOf a0 M0).bind fun r10 =>
        (f_X11_degreeOf a1 M0).bind fun r12 =>
        if r10 < 0 then
          f_X11_times_60 a0 a1 a2 M0
        else
          if r12 < 0 then
            f_X11_times_60 a0 a1 a2 M0
          else
            if (tp_w (r10 + r12)) ≤ 8 then
              f_X11_times_60 a0 a1 a2 M0
            else
              some ((-6), M0)
      else
        some ((-1), M0)
set_option maxHeartbeats 4000000 in
set_option maxRecDepth 100000 in
theorem T_X11_times (G : tp_G) (a0 : Int) (a1 : Int) (a2 : Int) (M0 : tp_M) : tp_J i_X11_times (tp_rm 2) G 0 0 o_X11_times tp_NC (tp_st M0) 0 0 [some (.inr (.inr 483)), some (.inl a0), some (.inl a1), some (.inl a2), none, none, none, none] 0 [] (f_X11_times a0 a1 a2 M0) := by
  unfold f_X11_times
  refine j_iload_n rfl d_X11_times_0 rfl ?_
  refine j_bind (fun r1 h2 => ?_)
  refine j_callS (y := y_X11_isSlot) (I' := i_X11_isSlot) (avs := [.inl a0]) (st := []) (c_X11_isSlot G a0 M0 r1 h2) cs_Model_231 wd_1250 wd_1251 rfl rfl (Nat.le_of_ble_eq_true rfl) ⟨rfl, rfl⟩ ⟨by decide, by decide⟩ ⟨by decide, by decide⟩ d_X11_times_1 ?_
  refine j_if_eq (tgt := 21) d_X11_times_4 (by decide) (fun h3 => ?_) (fun h3 => ?_)
  · refine j_iconst ⟨by decide, by decide⟩ d_X11_times_21 ?_
    exact j_iret d_X11_times_22 rfl rfl ⟨rfl, rfl⟩
  · refine j_iload_n rfl d_X11_times_7 rfl ?_
    refine j_bind (fun r4 h5 => ?_)
    refine j_callS (y := y_X11_isSlot) (I' := i_X11_isSlot) (avs := [.inl a1]) (st := []) (c_X11_isSlot G a1 M0 r4 h5) cs_Model_231 wd_1250 wd_1251 rfl rfl (Nat.le_of_ble_eq_true rfl) ⟨rfl, rfl⟩ ⟨by decide, by decide⟩ ⟨by decide, by decide⟩ d_X11_times_8 ?_
    refine j_if_eq (tgt := 21) d_X11_times_11 (by decide) (fun h6 => ?_) (fun h6 => ?_)
    · refine j_iconst ⟨by decide, by decide⟩ d_X11_times_21 ?_
      exact j_iret d_X11_times_22 rfl rfl ⟨rfl, rfl⟩
    · refine j_iload_n rfl d_X11_times_14 rfl ?_
      refine j_bind (fun r7 h8 => ?_)
      refine j_callS (y := y_X11_isSlot) (I' := i_X11_isSlot) (avs := [.inl a2]) (st := []) (c_X11_isSlot G a2 M0 r7 h8) cs_Model_231 wd_1250 wd_1251 rfl rfl (Nat.le_of_ble_eq_true rfl) ⟨rfl, rfl⟩ ⟨by decide, by decide⟩ ⟨by decide, by decide⟩ d_X11_times_15 ?_
      refine j_if_ne (tgt := 23) d_X11_times_18 (by decide) (fun h9 => ?_) (fun h9 => ?_)
      · refine j_aload_n rfl d_X11_times_23 rfl ?_
        refine j_iload_n rfl d_X11_times_24 rfl ?_
        refine j_bind (fun r10 h11 => ?_)
        refine j_callV (y := y_X11_degreeOf) (I' := i_X11_degreeOf) (avs := [.inl a0]) (c := 483) (st := []) (c_X11_degreeOf G a0 M0 r10 h11) cs_Model_187 wd_1290 wd_1292 ws_45 tg_483 rfl rfl rfl (Nat.le_of_ble_eq_true rfl) ⟨rfl, rfl⟩ ⟨by decide, by decide⟩ ⟨by decide, by decide⟩ d_X11_times_25 ?_
        refine j_istore (lv' := [some (.inr (.inr 483)), some (.inl a0), some (.inl a1), some (.inl a2), some (.inl r10), none, none, none]) d_X11_times_28 (Nat.le_of_ble_eq_true rfl) rfl ?_
        refine j_aload_n rfl d_X11_times_30 rfl ?_
        refine j_iload_n rfl d_X11_times_31 rfl ?_
        refine j_bind (fun r12 h13 => ?_)
        refine j_callV (y := y_X11_degreeOf) (I' := i_X11_degreeOf) (avs := [.inl a1]) (c := 483) (st := []) (c_X11_degreeOf G a1 M0 r12 h13) cs_Model_187 wd_1290 wd_1292 ws_45 tg_483 rfl rfl rfl (Nat.le_of_ble_eq_true rfl) ⟨rfl, rfl⟩ ⟨by decide, by decide⟩ ⟨by decide, by decide⟩ d_X11_times_32 ?_
        refine j_istore (lv' := [some (.inr (.inr 483)), some (.inl a0), some (.inl a1), some (.inl a2), some (.inl r10), some (.inl r12), none, none]) d_X11_times_35 (Nat.le_of_ble_eq_true rfl) rfl ?_
        refine j_iload d_X11_times_37 rfl ?_
        refine j_if_lt (tgt := 60) d_X11_times_39 (by decide) (fun h14 => ?_) (fun h14 => ?_)
        · exact j_wk [true, true, true, true, false, false, false, false] rfl rfl (T_X11_times_60 G a0 a1 a2 M0)
        · refine j_iload d_X11_times_42 rfl ?_
          refine j_if_lt (tgt := 60) d_X11_times_44 (by decide) (fun h28 => ?_) (fun h28 => ?_)
          · exact j_wk [true, true, true, true, false, false, false, false] rfl rfl (T_X11_times_60 G a0 a1 a2 M0)
          · refine j_iload d_X11_times_47 rfl ?_
            refine j_iload d_X11_times_49 rfl ?_
            refine j_iadd d_X11_times_51 ?_
            refine j_bipush ⟨by decide, by decide⟩ (by decide +kernel) d_X11_times_52 ?_
            refine j_icmp_le (tgt := 60) d_X11_times_54 (by decide) (fun h29 => ?_) (fun h29 => ?_)
            · exact j_wk [true, true, true, true, false, false, false, false] rfl rfl (T_X11_times_60 G a0 a1 a2 M0)
            · refine j_bipush ⟨by decide, by decide⟩ (by decide +kernel) d_X11_times_57 ?_
              exact j_iret d_X11_times_59 rfl rfl ⟨rfl, rfl⟩
      · refine j_iconst ⟨by decide, by decide⟩ d_X11_times_21 ?_
        exact j_iret d_X11_times_22 rfl rfl ⟨rfl, rfl⟩
set_option maxHeartbeats 4000000 in
set_option maxRecDepth 100000 in
theorem c_X11_times (G : tp_G) (a0 : Int) (a1 : Int) (a2 : Int) (M0 : tp_M) (r : Int × tp_M) (h : f_X11_times a0 a1 a2 M0 = some r) (l : Launch) : Met l y_X11_times (tp_ws y_X11_times i_X11_times) (tp_rm 2) (tp_Pc G [.inr (.inr 483), .inl a0, .inl a1, .inl a2] tp_NC (tp_st M0)) (tp_Q G (o_X11_times r)) 0 0 (tp_A G) :=
  tp_met (I := i_X11_times) (y := y_X11_times) (by decide +kernel) (Eq.refl "TypesAtPrimeModel") (Eq.refl "times") (lv := [some (.inr (.inr 483)), some (.inl a0), some (.inl a1), some (.inl a2), none, none, none, none]) rfl (Nat.le_of_ble_eq_true rfl) (T_X11_times G a0 a1 a2 M0) h l
theorem wd_1333 : (.constantLong "TypesAtPrimeModel" 251 (-1) : Cond) ∈ lw_tbl := List.mem_append_right _ (List.mem_of_getElem? (i := 1333) (by decide +kernel))
def y_X11_isSafe : MethodName := ⟨"TypesAtPrimeModel", "isSafe", "(JJ)Z"⟩
abbrev i_X11_isSafe : tp_I := (prog_13_method_28_code, "TypesAtPrimeModel", (some .boolean), 5, "isSafe")
abbrev o_X11_isSafe (M : tp_M) : Int → tp_O := fun r => (some (.inl r), tp_NC, tp_st M)
theorem d_X11_isSafe_0 : decode prog_13_method_28_code 0 = .ok (.lload_n 2, 1) := by decide +kernel
theorem d_X11_isSafe_1 : decode prog_13_method_28_code 1 = .ok (.lconst 0, 1) := by decide +kernel
theorem d_X11_isSafe_2 : decode prog_13_method_28_code 2 = .ok (.lcmp, 1) := by decide +kernel
theorem d_X11_isSafe_3 : decode prog_13_method_28_code 3 = .ok (.ifCond .eq 9, 3) := by decide +kernel
theorem d_X11_isSafe_6 : decode prog_13_method_28_code 6 = .ok (.lload_n 0, 1) := by decide +kernel
theorem d_X11_isSafe_7 : decode prog_13_method_28_code 7 = .ok (.lconst 0, 1) := by decide +kernel
theorem d_X11_isSafe_8 : decode prog_13_method_28_code 8 = .ok (.lcmp, 1) := by decide +kernel
theorem d_X11_isSafe_9 : decode prog_13_method_28_code 9 = .ok (.ifCond .ne 5, 3) := by decide +kernel
theorem d_X11_isSafe_12 : decode prog_13_method_28_code 12 = .ok (.iconst 1, 1) := by decide +kernel
theorem d_X11_isSafe_13 : decode prog_13_method_28_code 13 = .ok (.ireturn, 1) := by decide +kernel
theorem d_X11_isSafe_14 : decode prog_13_method_28_code 14 = .ok (.lload_n 0, 1) := by decide +kernel
theorem d_X11_isSafe_15 : decode prog_13_method_28_code 15 = .ok (.ldc2_w 246, 3) := by decide +kernel
theorem d_X11_isSafe_18 : decode prog_13_method_28_code 18 = .ok (.lcmp, 1) := by decide +kernel
theorem d_X11_isSafe_19 : decode prog_13_method_28_code 19 = .ok (.ifCond .ne 15, 3) := by decide +kernel
theorem d_X11_isSafe_22 : decode prog_13_method_28_code 22 = .ok (.lload_n 2, 1) := by decide +kernel
theorem d_X11_isSafe_23 : decode prog_13_method_28_code 23 = .ok (.ldc2_w 251, 3) := by decide +kernel
theorem d_X11_isSafe_26 : decode prog_13_method_28_code 26 = .ok (.lcmp, 1) := by decide +kernel
theorem d_X11_isSafe_27 : decode prog_13_method_28_code 27 = .ok (.ifCond .ne 7, 3) := by decide +kernel
theorem d_X11_isSafe_30 : decode prog_13_method_28_code 30 = .ok (.iconst 1, 1) := by decide +kernel
theorem d_X11_isSafe_31 : decode prog_13_method_28_code 31 = .ok (.goto 4, 3) := by decide +kernel
theorem d_X11_isSafe_34 : decode prog_13_method_28_code 34 = .ok (.iconst 0, 1) := by decide +kernel
theorem d_X11_isSafe_35 : decode prog_13_method_28_code 35 = .ok (.istore 4, 2) := by decide +kernel
theorem d_X11_isSafe_37 : decode prog_13_method_28_code 37 = .ok (.iload 4, 2) := by decide +kernel
theorem d_X11_isSafe_39 : decode prog_13_method_28_code 39 = .ok (.ifCond .ne 17, 3) := by decide +kernel
theorem d_X11_isSafe_42 : decode prog_13_method_28_code 42 = .ok (.lload_n 0, 1) := by decide +kernel
theorem d_X11_isSafe_43 : decode prog_13_method_28_code 43 = .ok (.lload_n 2, 1) := by decide +kernel
theorem d_X11_isSafe_44 : decode prog_13_method_28_code 44 = .ok (.lmul, 1) := by decide +kernel
theorem d_X11_isSafe_45 : decode prog_13_method_28_code 45 = .ok (.lload_n 2, 1) := by decide +kernel
theorem d_X11_isSafe_46 : decode prog_13_method_28_code 46 = .ok (.ldiv, 1) := by decide +kernel
theorem d_X11_isSafe_47 : decode prog_13_method_28_code 47 = .ok (.lload_n 0, 1) := by decide +kernel
theorem d_X11_isSafe_48 : decode prog_13_method_28_code 48 = .ok (.lcmp, 1) := by decide +kernel
theorem d_X11_isSafe_49 : decode prog_13_method_28_code 49 = .ok (.ifCond .ne 7, 3) := by decide +kernel
theorem d_X11_isSafe_52 : decode prog_13_method_28_code 52 = .ok (.iconst 1, 1) := by decide +kernel
theorem d_X11_isSafe_53 : decode prog_13_method_28_code 53 = .ok (.goto 4, 3) := by decide +kernel
theorem d_X11_isSafe_56 : decode prog_13_method_28_code 56 = .ok (.iconst 0, 1) := by decide +kernel
theorem d_X11_isSafe_57 : decode prog_13_method_28_code 57 = .ok (.ireturn, 1) := by decide +kernel
def f_X11_isSafe_35 (x0 : Int) (x2 : Int) (s0 : Int) (M0 : tp_M) : Option (Int) :=
  if ¬ s0 = 0 then
    some 0
  else
    if x2 = 0 then none else
      if ¬ (tp_wl (Int.tdiv (tp_wl (x0 * x2)) x2)) = x0 then
        some 0
      else
        some 1
set_option maxHeartbeats 4000000 in
set_option maxRecDepth 100000 in
theorem T_X11_isSafe_35 (G : tp_G) (x0 : Int) (x2 : Int) (s0 : Int) (M0 : tp_M) : tp_J i_X11_isSafe (tp_rm 0) G 0 0 (o_X11_isSafe M0) tp_NC (tp_st M0) 0 0 [some (.inr (.inl x0)), none, some (.inr (.inl x2)), none, none] 35 [.inl s0] (f_X11_isSafe_35 x0 x2 s0 M0) := by
  unfold f_X11_isSafe_35
  refine j_istore (lv' := [some (.inr (.inl x0)), none, some (.inr (.inl x2)), none, some (.inl s0)]) d_X11_isSafe_35 (Nat.le_of_ble_eq_true rfl) rfl ?_
  refine j_iload d_X11_isSafe_37 rfl ?_
  refine j_if_ne (tgt := 56) d_X11_isSafe_39 (by decide) (fun h4 => ?_) (fun h4 => ?_)
  · refine j_iconst ⟨by decide, by decide⟩ d_X11_isSafe_56 ?_
    exact j_zret d_X11_isSafe_57 rfl (Or.inl rfl) rfl ⟨rfl, rfl⟩
  · refine j_lload_n rfl d_X11_isSafe_42 rfl ?_
    refine j_lload_n rfl d_X11_isSafe_43 rfl ?_
    refine j_lmul d_X11_isSafe_44 ?_
    refine j_lload_n rfl d_X11_isSafe_45 rfl ?_
    refine j_ldiv d_X11_isSafe_46 ?_
    refine j_lload_n rfl d_X11_isSafe_47 rfl ?_
    refine j_lcmp_ne (tgt := 56) d_X11_isSafe_48 rfl d_X11_isSafe_49 (by decide) (fun h5 => ?_) (fun h5 => ?_)
    · refine j_iconst ⟨by decide, by decide⟩ d_X11_isSafe_56 ?_
      exact j_zret d_X11_isSafe_57 rfl (Or.inl rfl) rfl ⟨rfl, rfl⟩
    · refine j_iconst ⟨by decide, by decide⟩ d_X11_isSafe_52 ?_
      refine j_goto (tgt := 57) d_X11_isSafe_53 (by decide) ?_
      exact j_zret d_X11_isSafe_57 rfl (Or.inr rfl) rfl ⟨rfl, rfl⟩
def f_X11_isSafe_34 (x0 : Int) (x2 : Int) (M0 : tp_M) : Option (Int) :=
  f_X11_isSafe_35 x0 x2 0 M0
set_option maxHeartbeats 4000000 in
set_option maxRecDepth 100000 in
theorem T_X11_isSafe_34 (G : tp_G) (x0 : Int) (x2 : Int) (M0 : tp_M) : tp_J i_X11_isSafe (tp_rm 0) G 0 0 (o_X11_isSafe M0) tp_NC (tp_st M0) 0 0 [some (.inr (.inl x0)), none, some (.inr (.inl x2)), none, none] 34 [] (f_X11_isSafe_34 x0 x2 M0) := by
  unfold f_X11_isSafe_34
  refine j_iconst ⟨by decide, by decide⟩ d_X11_isSafe_34 ?_
  exact j_wk [true, false, true, false, false] rfl rfl (T_X11_isSafe_35 G x0 x2 0 M0)
def f_X11_isSafe (a0 : Int) (a1 : Int) (M0 : tp_M) : Option (Int) :=
  if a1 = 0 then
    some 1
  else
    if ¬ a0 = 0 then
      if ¬ a0 = (-9223372036854775808) then
        f_X11_isSafe_34 a0 a1 M0
      else
        if ¬ a1 = (-1) then
          f_X11_isSafe_34 a0 a1 M0
        else
          f_X11_isSafe_35 a0 a1 1 M0
    else
      some 1
set_option maxHeartbeats 4000000 in
set_option maxRecDepth 100000 in
theorem T_X11_isSafe (G : tp_G) (a0 : Int) (a1 : Int) (M0 : tp_M) : tp_J i_X11_isSafe (tp_rm 0) G 0 0 (o_X11_isSafe M0) tp_NC (tp_st M0) 0 0 [some (.inr (.inl a0)), none, some (.inr (.inl a1)), none, none] 0 [] (f_X11_isSafe a0 a1 M0) := by
  unfold f_X11_isSafe
  refine j_lload_n rfl d_X11_isSafe_0 rfl ?_
  refine j_lconst (x := 0) ⟨by decide, by decide⟩ (by decide +kernel) d_X11_isSafe_1 ?_
  refine j_lcmp_eq (tgt := 12) d_X11_isSafe_2 rfl d_X11_isSafe_3 (by decide) (fun h1 => ?_) (fun h1 => ?_)
  · refine j_iconst ⟨by decide, by decide⟩ d_X11_isSafe_12 ?_
    exact j_zret d_X11_isSafe_13 rfl (Or.inr rfl) rfl ⟨rfl, rfl⟩
  · refine j_lload_n rfl d_X11_isSafe_6 rfl ?_
    refine j_lconst (x := 0) ⟨by decide, by decide⟩ (by decide +kernel) d_X11_isSafe_7 ?_
    refine j_lcmp_ne (tgt := 14) d_X11_isSafe_8 rfl d_X11_isSafe_9 (by decide) (fun h2 => ?_) (fun h2 => ?_)
    · refine j_lload_n rfl d_X11_isSafe_14 rfl ?_
      refine j_ldc2 (x := (-9223372036854775808)) ⟨by decide, by decide⟩ (show Cond.constantLong _ _ _ ∈ lw_tbl from wd_1305) d_X11_isSafe_15 ?_
      refine j_lcmp_ne (tgt := 34) d_X11_isSafe_18 rfl d_X11_isSafe_19 (by decide) (fun h3 => ?_) (fun h3 => ?_)
      · exact j_wk [true, false, true, false, false] rfl rfl (T_X11_isSafe_34 G a0 a1 M0)
      · refine j_lload_n rfl d_X11_isSafe_22 rfl ?_
        refine j_ldc2 (x := (-1)) ⟨by decide, by decide⟩ (show Cond.constantLong _ _ _ ∈ lw_tbl from wd_1333) d_X11_isSafe_23 ?_
        refine j_lcmp_ne (tgt := 34) d_X11_isSafe_26 rfl d_X11_isSafe_27 (by decide) (fun h6 => ?_) (fun h6 => ?_)
        · exact j_wk [true, false, true, false, false] rfl rfl (T_X11_isSafe_34 G a0 a1 M0)
        · refine j_iconst ⟨by decide, by decide⟩ d_X11_isSafe_30 ?_
          refine j_goto (tgt := 35) d_X11_isSafe_31 (by decide) ?_
          exact j_wk [true, false, true, false, false] rfl rfl (T_X11_isSafe_35 G a0 a1 1 M0)
    · refine j_iconst ⟨by decide, by decide⟩ d_X11_isSafe_12 ?_
      exact j_zret d_X11_isSafe_13 rfl (Or.inr rfl) rfl ⟨rfl, rfl⟩
set_option maxHeartbeats 4000000 in
set_option maxRecDepth 100000 in
theorem c_X11_isSafe (G : tp_G) (a0 : Int) (a1 : Int) (M0 : tp_M) (r : Int) (h : f_X11_isSafe a0 a1 M0 = some r) (l : Launch) : Met l y_X11_isSafe (tp_ws y_X11_isSafe i_X11_isSafe) (tp_rm 0) (tp_Pc G [.inr (.inl a0), .inr (.inl a1)] tp_NC (tp_st M0)) (tp_Q G ((o_X11_isSafe M0) r)) 0 0 (tp_A G) :=
  tp_met (I := i_X11_isSafe) (y := y_X11_isSafe) (by decide +kernel) (Eq.refl "TypesAtPrimeModel") (Eq.refl "isSafe") (lv := [some (.inr (.inl a0)), none, some (.inr (.inl a1)), none, none]) rfl (Nat.le_of_ble_eq_true rfl) (T_X11_isSafe G a0 a1 M0) h l
theorem wd_1332 : (.code ⟨"TypesAtPrimeModel", "isSafe", "(JJ)Z"⟩ prog_13_method_28_code 5 (some .boolean) : Cond) ∈ lw_tbl := List.mem_append_right _ (List.mem_of_getElem? (i := 1332) (by decide +kernel))
theorem cs_Model_253 : tp_CS "TypesAtPrimeModel" 253 y_X11_isSafe i_X11_isSafe 2 := ⟨wd_1332, wd_12, by decide, by decide, by decide +kernel⟩
theorem wd_1330 : (.methodLink "TypesAtPrimeModel" 253 ⟨"TypesAtPrimeModel", "isSafe", "(JJ)Z"⟩ : Cond) ∈ lw_tbl := List.mem_append_right _ (List.mem_of_getElem? (i := 1330) (by decide +kernel))
theorem wd_1331 : (.static ⟨"TypesAtPrimeModel", "isSafe", "(JJ)Z"⟩ : Cond) ∈ lw_tbl := List.mem_append_right _ (List.mem_of_getElem? (i := 1331) (by decide +kernel))
def y_X11_worth : MethodName := ⟨"TypesAtPrimeModel", "worth", "(II)J"⟩
abbrev i_X11_worth : tp_I := (prog_13_method_29_code, "TypesAtPrimeModel", (some .long), 10, "worth")
abbrev o_X11_worth (M : tp_M) : Int → tp_O := fun r => (some (.inr (.inl r)), tp_NC, tp_st M)
theorem d_X11_worth_0 : decode prog_13_method_29_code 0 = .ok (.iload_n 1, 1) := by decide +kernel
theorem d_X11_worth_1 : decode prog_13_method_29_code 1 = .ok (.invokestatic 231, 3) := by decide +kernel
theorem d_X11_worth_4 : decode prog_13_method_29_code 4 = .ok (.ifCond .ne 7, 3) := by decide +kernel
theorem d_X11_worth_7 : decode prog_13_method_29_code 7 = .ok (.ldc2_w 246, 3) := by decide +kernel
theorem d_X11_worth_10 : decode prog_13_method_29_code 10 = .ok (.lreturn, 1) := by decide +kernel
theorem d_X11_worth_11 : decode prog_13_method_29_code 11 = .ok (.lconst 0, 1) := by decide +kernel
theorem d_X11_worth_12 : decode prog_13_method_29_code 12 = .ok (.lstore_n 3, 1) := by decide +kernel
theorem d_X11_worth_13 : decode prog_13_method_29_code 13 = .ok (.bipush 8, 2) := by decide +kernel
theorem d_X11_worth_15 : decode prog_13_method_29_code 15 = .ok (.istore 5, 2) := by decide +kernel
theorem d_X11_worth_17 : decode prog_13_method_29_code 17 = .ok (.iload 5, 2) := by decide +kernel
theorem d_X11_worth_19 : decode prog_13_method_29_code 19 = .ok (.ifCond .lt 76, 3) := by decide +kernel
theorem d_X11_worth_22 : decode prog_13_method_29_code 22 = .ok (.lload_n 3, 1) := by decide +kernel
theorem d_X11_worth_23 : decode prog_13_method_29_code 23 = .ok (.iload_n 2, 1) := by decide +kernel
theorem d_X11_worth_24 : decode prog_13_method_29_code 24 = .ok (.i2l, 1) := by decide +kernel
theorem d_X11_worth_25 : decode prog_13_method_29_code 25 = .ok (.invokestatic 253, 3) := by decide +kernel
theorem d_X11_worth_28 : decode prog_13_method_29_code 28 = .ok (.ifCond .ne 7, 3) := by decide +kernel
theorem d_X11_worth_31 : decode prog_13_method_29_code 31 = .ok (.ldc2_w 246, 3) := by decide +kernel
theorem d_X11_worth_34 : decode prog_13_method_29_code 34 = .ok (.lreturn, 1) := by decide +kernel
theorem d_X11_worth_35 : decode prog_13_method_29_code 35 = .ok (.lload_n 3, 1) := by decide +kernel
theorem d_X11_worth_36 : decode prog_13_method_29_code 36 = .ok (.iload_n 2, 1) := by decide +kernel
theorem d_X11_worth_37 : decode prog_13_method_29_code 37 = .ok (.i2l, 1) := by decide +kernel
theorem d_X11_worth_38 : decode prog_13_method_29_code 38 = .ok (.lmul, 1) := by decide +kernel
theorem d_X11_worth_39 : decode prog_13_method_29_code 39 = .ok (.lstore 6, 2) := by decide +kernel
theorem d_X11_worth_41 : decode prog_13_method_29_code 41 = .ok (.aload_n 0, 1) := by decide +kernel
theorem d_X11_worth_42 : decode prog_13_method_29_code 42 = .ok (.iload_n 1, 1) := by decide +kernel
theorem d_X11_worth_43 : decode prog_13_method_29_code 43 = .ok (.iload 5, 2) := by decide +kernel
theorem d_X11_worth_45 : decode prog_13_method_29_code 45 = .ok (.invokevirtual 183, 3) := by decide +kernel
theorem d_X11_worth_48 : decode prog_13_method_29_code 48 = .ok (.i2l, 1) := by decide +kernel
theorem d_X11_worth_49 : decode prog_13_method_29_code 49 = .ok (.lstore 8, 2) := by decide +kernel
theorem d_X11_worth_51 : decode prog_13_method_29_code 51 = .ok (.lload 6, 2) := by decide +kernel
theorem d_X11_worth_53 : decode prog_13_method_29_code 53 = .ok (.lload 8, 2) := by decide +kernel
theorem d_X11_worth_55 : decode prog_13_method_29_code 55 = .ok (.ladd, 1) := by decide +kernel
theorem d_X11_worth_56 : decode prog_13_method_29_code 56 = .ok (.lstore_n 3, 1) := by decide +kernel
theorem d_X11_worth_57 : decode prog_13_method_29_code 57 = .ok (.lload 8, 2) := by decide +kernel
theorem d_X11_worth_59 : decode prog_13_method_29_code 59 = .ok (.lconst 0, 1) := by decide +kernel
theorem d_X11_worth_60 : decode prog_13_method_29_code 60 = .ok (.lcmp, 1) := by decide +kernel
theorem d_X11_worth_61 : decode prog_13_method_29_code 61 = .ok (.ifCond .le 10, 3) := by decide +kernel
theorem d_X11_worth_64 : decode prog_13_method_29_code 64 = .ok (.lload_n 3, 1) := by decide +kernel
theorem d_X11_worth_65 : decode prog_13_method_29_code 65 = .ok (.lload 6, 2) := by decide +kernel
theorem d_X11_worth_67 : decode prog_13_method_29_code 67 = .ok (.lcmp, 1) := by decide +kernel
theorem d_X11_worth_68 : decode prog_13_method_29_code 68 = .ok (.ifCond .lt 17, 3) := by decide +kernel
theorem d_X11_worth_71 : decode prog_13_method_29_code 71 = .ok (.lload 8, 2) := by decide +kernel
theorem d_X11_worth_73 : decode prog_13_method_29_code 73 = .ok (.lconst 0, 1) := by decide +kernel
theorem d_X11_worth_74 : decode prog_13_method_29_code 74 = .ok (.lcmp, 1) := by decide +kernel
theorem d_X11_worth_75 : decode prog_13_method_29_code 75 = .ok (.ifCond .ge 14, 3) := by decide +kernel
theorem d_X11_worth_78 : decode prog_13_method_29_code 78 = .ok (.lload_n 3, 1) := by decide +kernel
theorem d_X11_worth_79 : decode prog_13_method_29_code 79 = .ok (.lload 6, 2) := by decide +kernel
theorem d_X11_worth_81 : decode prog_13_method_29_code 81 = .ok (.lcmp, 1) := by decide +kernel
theorem d_X11_worth_82 : decode prog_13_method_29_code 82 = .ok (.ifCond .le 7, 3) := by decide +kernel
theorem d_X11_worth_85 : decode prog_13_method_29_code 85 = .ok (.ldc2_w 246, 3) := by decide +kernel
theorem d_X11_worth_88 : decode prog_13_method_29_code 88 = .ok (.lreturn, 1) := by decide +kernel
theorem d_X11_worth_89 : decode prog_13_method_29_code 89 = .ok (.iinc 5 (-1), 3) := by decide +kernel
theorem d_X11_worth_92 : decode prog_13_method_29_code 92 = .ok (.goto (-75), 3) := by decide +kernel
theorem d_X11_worth_95 : decode prog_13_method_29_code 95 = .ok (.lload_n 3, 1) := by decide +kernel
theorem d_X11_worth_96 : decode prog_13_method_29_code 96 = .ok (.lreturn, 1) := by decide +kernel
def f_X11_worth_89 (rec_17 : Int → Int → Option (Int)) (x1 : Int) (x2 : Int) (x3 : Int) (x5 : Int) (M0 : tp_M) : Option (Int) :=
  tp_lt (tp_w (x5 + (-1))) fun y14 =>
  rec_17 x3 y14
set_option maxHeartbeats 4000000 in
set_option maxRecDepth 100000 in
theorem T_X11_worth_89 (G : tp_G) (rec_17 : Int → Int → Option (Int)) (x1 : Int) (x2 : Int) (x3 : Int) (x5 : Int) (M0 : tp_M) (hrec_17 : ∀ (x3' x5' : Int), tp_J i_X11_worth (tp_rm 1) G 0 0 (o_X11_worth M0) tp_NC (tp_st M0) 0 0 [some (.inr (.inr 483)), some (.inl x1), some (.inl x2), some (.inr (.inl (x3'))), none, some (.inl (x5')), none, none, none, none] 17 [] (rec_17 x3' x5')) : tp_J i_X11_worth (tp_rm 1) G 0 0 (o_X11_worth M0) tp_NC (tp_st M0) 0 0 [some (.inr (.inr 483)), some (.inl x1), some (.inl x2), some (.inr (.inl x3)), none, some (.inl x5), none, none, none, none] 89 [] (f_X11_worth_89 rec_17 x1 x2 x3 x5 M0) := by
  unfold f_X11_worth_89
  refine j_iincN (lv' := fun y14 => [some (.inr (.inr 483)), some (.inl x1), some (.inl x2), some (.inr (.inl x3)), none, some (.inl y14), none, none, none, none]) d_X11_worth_89 rfl (Nat.le_of_ble_eq_true rfl) (fun _ => rfl) (fun y14 hy14 => ?_)
  refine j_goto (tgt := 17) d_X11_worth_92 (by decide) ?_
  exact j_wk [true, true, true, true, false, true, false, false, false, false] rfl rfl (hrec_17 x3 y14)
def f_X11_worth_71 (rec_17 : Int → Int → Option (Int)) (x1 : Int) (x2 : Int) (x3 : Int) (x5 : Int) (x6 : Int) (x8 : Int) (M0 : tp_M) : Option (Int) :=
  if 0 ≤ x8 then
    f_X11_worth_89 rec_17 x1 x2 x3 x5 M0
  else
    if x3 ≤ x6 then
      f_X11_worth_89 rec_17 x1 x2 x3 x5 M0
    else
      some (-9223372036854775808)
set_option maxHeartbeats 4000000 in
set_option maxRecDepth 100000 in
theorem T_X11_worth_71 (G : tp_G) (rec_17 : Int → Int → Option (Int)) (x1 : Int) (x2 : Int) (x3 : Int) (x5 : Int) (x6 : Int) (x8 : Int) (M0 : tp_M) (hrec_17 : ∀ (x3' x5' : Int), tp_J i_X11_worth (tp_rm 1) G 0 0 (o_X11_worth M0) tp_NC (tp_st M0) 0 0 [some (.inr (.inr 483)), some (.inl x1), some (.inl x2), some (.inr (.inl (x3'))), none, some (.inl (x5')), none, none, none, none] 17 [] (rec_17 x3' x5')) : tp_J i_X11_worth (tp_rm 1) G 0 0 (o_X11_worth M0) tp_NC (tp_st M0) 0 0 [some (.inr (.inr 483)), some (.inl x1), some (.inl x2), some (.inr (.inl x3)), none, some (.inl x5), some (.inr (.inl x6)), none, some (.inr (.inl x8)), none] 71 [] (f_X11_worth_71 rec_17 x1 x2 x3 x5 x6 x8 M0) := by
  unfold f_X11_worth_71
  refine j_lload d_X11_worth_71 rfl ?_
  refine j_lconst (x := 0) ⟨by decide, by decide⟩ (by decide +kernel) d_X11_worth_73 ?_
  refine j_lcmp_ge (tgt := 89) d_X11_worth_74 rfl d_X11_worth_75 (by decide) (fun h13 => ?_) (fun h13 => ?_)
  · exact j_wk [true, true, true, true, false, true, false, false, false, false] rfl rfl (T_X11_worth_89 G rec_17 x1 x2 x3 x5 M0 hrec_17)
  · refine j_lload_n rfl d_X11_worth_78 rfl ?_
    refine j_lload d_X11_worth_79 rfl ?_
    refine j_lcmp_le (tgt := 89) d_X11_worth_81 rfl d_X11_worth_82 (by decide) (fun h15 => ?_) (fun h15 => ?_)
    · exact j_wk [true, true, true, true, false, true, false, false, false, false] rfl rfl (T_X11_worth_89 G rec_17 x1 x2 x3 x5 M0 hrec_17)
    · refine j_ldc2 (x := (-9223372036854775808)) ⟨by decide, by decide⟩ (show Cond.constantLong _ _ _ ∈ lw_tbl from wd_1305) d_X11_worth_85 ?_
      exact j_lret d_X11_worth_88 rfl rfl ⟨rfl, rfl⟩
def f_X11_worth_17B (x1 : Int) (x2 : Int) (M0 : tp_M) (rec_17 : Int → Int → Option (Int)) (x3 : Int) (x5 : Int) : Option (Int) :=
  if x5 < 0 then
    some x3
  else
    (f_X11_isSafe x3 x2 M0).bind fun r5 =>
    if ¬ r5 = 0 then
      tp_lt ((tp_wl (x3 * x2))) fun y8 =>
      (f_X11_coefficient x1 x5 M0).bind fun r9 =>
      tp_lt ((tp_wl (y8 + r9))) fun y11 =>
      if r9 ≤ 0 then
        f_X11_worth_71 rec_17 x1 x2 y11 x5 y8 r9 M0
      else
        if y11 < y8 then
          some (-9223372036854775808)
        else
          f_X11_worth_71 rec_17 x1 x2 y11 x5 y8 r9 M0
    else
      some (-9223372036854775808)
set_option maxHeartbeats 4000000 in
set_option maxRecDepth 100000 in
theorem T_X11_worth_17B (G : tp_G) (x1 : Int) (x2 : Int) (M0 : tp_M) (rec_17 : Int → Int → Option (Int)) (hrec_17 : ∀ (x3' x5' : Int), tp_J i_X11_worth (tp_rm 1) G 0 0 (o_X11_worth M0) tp_NC (tp_st M0) 0 0 [some (.inr (.inr 483)), some (.inl x1), some (.inl x2), some (.inr (.inl (x3'))), none, some (.inl (x5')), none, none, none, none] 17 [] (rec_17 x3' x5')) (x3 : Int) (x5 : Int) : tp_J i_X11_worth (tp_rm 1) G 0 0 (o_X11_worth M0) tp_NC (tp_st M0) 0 0 [some (.inr (.inr 483)), some (.inl x1), some (.inl x2), some (.inr (.inl x3)), none, some (.inl x5), none, none, none, none] 17 [] (f_X11_worth_17B x1 x2 M0 rec_17 x3 x5) := by
  unfold f_X11_worth_17B
  refine j_iload d_X11_worth_17 rfl ?_
  refine j_if_lt (tgt := 95) d_X11_worth_19 (by decide) (fun h4 => ?_) (fun h4 => ?_)
  · refine j_lload_n rfl d_X11_worth_95 rfl ?_
    exact j_lret d_X11_worth_96 rfl rfl ⟨rfl, rfl⟩
  · refine j_lload_n rfl d_X11_worth_22 rfl ?_
    refine j_iload_n rfl d_X11_worth_23 rfl ?_
    refine j_i2l d_X11_worth_24 ?_
    refine j_bind (fun r5 h6 => ?_)
    refine j_callS (y := y_X11_isSafe) (I' := i_X11_isSafe) (avs := [.inr (.inl x3), .inr (.inl x2)]) (st := []) (c_X11_isSafe G x3 x2 M0 r5 h6) cs_Model_253 wd_1330 wd_1331 rfl rfl (Nat.le_of_ble_eq_true rfl) ⟨rfl, rfl⟩ ⟨by decide, by decide⟩ ⟨by decide, by decide⟩ d_X11_worth_25 ?_
    refine j_if_ne (tgt := 35) d_X11_worth_28 (by decide) (fun h7 => ?_) (fun h7 => ?_)
    · refine j_lload_n rfl d_X11_worth_35 rfl ?_
      refine j_iload_n rfl d_X11_worth_36 rfl ?_
      refine j_i2l d_X11_worth_37 ?_
      refine j_lmul d_X11_worth_38 ?_
      refine j_nmL (fun y8 hy8 => ?_)
      refine j_lstore (lv' := [some (.inr (.inr 483)), some (.inl x1), some (.inl x2), some (.inr (.inl x3)), none, some (.inl x5), some (.inr (.inl y8)), none, none, none]) d_X11_worth_39 (Nat.le_of_ble_eq_true rfl) rfl ?_
      refine j_aload_n rfl d_X11_worth_41 rfl ?_
      refine j_iload_n rfl d_X11_worth_42 rfl ?_
      refine j_iload d_X11_worth_43 rfl ?_
      refine j_bind (fun r9 h10 => ?_)
      refine j_callV (y := y_X11_coefficient) (I' := i_X11_coefficient) (avs := [.inl x1, .inl x5]) (c := 483) (st := []) (c_X11_coefficient G x1 x5 M0 r9 h10) cs_Model_183 wd_1294 wd_1296 ws_46 tg_483 rfl rfl rfl (Nat.le_of_ble_eq_true rfl) ⟨rfl, rfl⟩ ⟨by decide, by decide⟩ ⟨by decide, by decide⟩ d_X11_worth_45 ?_
      refine j_i2l d_X11_worth_48 ?_
      refine j_lstore (lv' := [some (.inr (.inr 483)), some (.inl x1), some (.inl x2), some (.inr (.inl x3)), none, some (.inl x5), some (.inr (.inl y8)), none, some (.inr (.inl r9)), none]) d_X11_worth_49 (Nat.le_of_ble_eq_true rfl) rfl ?_
      refine j_lload d_X11_worth_51 rfl ?_
      refine j_lload d_X11_worth_53 rfl ?_
      refine j_ladd d_X11_worth_55 ?_
      refine j_nmL (fun y11 hy11 => ?_)
      refine j_lstore_n (lv' := [some (.inr (.inr 483)), some (.inl x1), some (.inl x2), some (.inr (.inl y11)), none, some (.inl x5), some (.inr (.inl y8)), none, some (.inr (.inl r9)), none]) rfl d_X11_worth_56 (Nat.le_of_ble_eq_true rfl) rfl ?_
      refine j_lload d_X11_worth_57 rfl ?_
      refine j_lconst (x := 0) ⟨by decide, by decide⟩ (by decide +kernel) d_X11_worth_59 ?_
      refine j_lcmp_le (tgt := 71) d_X11_worth_60 rfl d_X11_worth_61 (by decide) (fun h12 => ?_) (fun h12 => ?_)
      · exact j_wk [true, true, true, true, false, true, true, false, true, false] rfl rfl (T_X11_worth_71 G rec_17 x1 x2 y11 x5 y8 r9 M0 hrec_17)
      · refine j_lload_n rfl d_X11_worth_64 rfl ?_
        refine j_lload d_X11_worth_65 rfl ?_
        refine j_lcmp_lt (tgt := 85) d_X11_worth_67 rfl d_X11_worth_68 (by decide) (fun h16 => ?_) (fun h16 => ?_)
        · refine j_ldc2 (x := (-9223372036854775808)) ⟨by decide, by decide⟩ (show Cond.constantLong _ _ _ ∈ lw_tbl from wd_1305) d_X11_worth_85 ?_
          exact j_lret d_X11_worth_88 rfl rfl ⟨rfl, rfl⟩
        · exact j_wk [true, true, true, true, false, true, true, false, true, false] rfl rfl (T_X11_worth_71 G rec_17 x1 x2 y11 x5 y8 r9 M0 hrec_17)
    · refine j_ldc2 (x := (-9223372036854775808)) ⟨by decide, by decide⟩ (show Cond.constantLong _ _ _ ∈ lw_tbl from wd_1305) d_X11_worth_31 ?_
      exact j_lret d_X11_worth_34 rfl rfl ⟨rfl, rfl⟩
def f_X11_worth_17 (x1 : Int) (x2 : Int) (x3 : Int) (x5 : Int) (M0 : tp_M) : Option (Int) := tp_lp (σ := Int × Int) (fun rec_ u => f_X11_worth_17B x1 x2 M0 (fun x3' x5' => rec_ (x3', x5')) u.1 u.2) tp_N (x3, x5)
set_option maxHeartbeats 4000000 in
set_option maxRecDepth 100000 in
theorem T_X11_worth_17 (G : tp_G) (x1 : Int) (x2 : Int) (x3 : Int) (x5 : Int) (M0 : tp_M) : tp_J i_X11_worth (tp_rm 1) G 0 0 (o_X11_worth M0) tp_NC (tp_st M0) 0 0 [some (.inr (.inr 483)), some (.inl x1), some (.inl x2), some (.inr (.inl x3)), none, some (.inl x5), none, none, none, none] 17 [] (f_X11_worth_17 x1 x2 x3 x5 M0) := by
  unfold f_X11_worth_17
  exact j_lp (σ := Int × Int) (n' := fun _ => tp_NC) (g' := fun u => tp_st M0) (k' := fun _ => 0) (q' := fun _ => 0) (lv' := fun u => [some (.inr (.inr 483)), some (.inl x1), some (.inl x2), some (.inr (.inl u.1)), none, some (.inl u.2), none, none, none, none]) (fun rec_ hrec u => T_X11_worth_17B G x1 x2 M0 (fun x3' x5' => rec_ (x3', x5')) (fun x3' x5' => hrec (x3', x5')) u.1 u.2) tp_N (x3, x5)
def f_X11_worth (a0 : Int) (a1 : Int) (M0 : tp_M) : Option (Int) :=
  (f_X11_isSlot a0 M0).bind fun r1 =>
  if ¬ r1 = 0 then
    f_X11_worth_17 a0 a1 0 8 M0
  else
    some (-9223372036854775808)
set_option maxHeartbeats 4000000 in
set_option maxRecDepth 100000 in
theorem T_X11_worth (G : tp_G) (a0 : Int) (a1 : Int) (M0 : tp_M) : tp_J i_X11_worth (tp_rm 1) G 0 0 (o_X11_worth M0) tp_NC (tp_st M0) 0 0 [some (.inr (.inr 483)), some (.inl a0), some (.inl a1), none, none, none, none, none, none, none] 0 [] (f_X11_worth a0 a1 M0) := by
  unfold f_X11_worth
  refine j_iload_n rfl d_X11_worth_0 rfl ?_
  refine j_bind (fun r1 h2 => ?_)
  refine j_callS (y := y_X11_isSlot) (I' := i_X11_isSlot) (avs := [.inl a0]) (st := []) (c_X11_isSlot G a0 M0 r1 h2) cs_Model_231 wd_1250 wd_1251 rfl rfl (Nat.le_of_ble_eq_true rfl) ⟨rfl, rfl⟩ ⟨by decide, by decide⟩ ⟨by decide, by decide⟩ d_X11_worth_1 ?_
  refine j_if_ne (tgt := 11) d_X11_worth_4 (by decide) (fun h3 => ?_) (fun h3 => ?_)
  · refine j_lconst (x := 0) ⟨by decide, by decide⟩ (by decide +kernel) d_X11_worth_11 ?_
    refine j_lstore_n (lv' := [some (.inr (.inr 483)), some (.inl a0), some (.inl a1), some (.inr (.inl 0)), none, none, none, none, none, none]) rfl d_X11_worth_12 (Nat.le_of_ble_eq_true rfl) rfl ?_
    refine j_bipush ⟨by decide, by decide⟩ (by decide +kernel) d_X11_worth_13 ?_
    refine j_istore (lv' := [some (.inr (.inr 483)), some (.inl a0), some (.inl a1), some (.inr (.inl 0)), none, some (.inl 8), none, none, none, none]) d_X11_worth_15 (Nat.le_of_ble_eq_true rfl) rfl ?_
    exact j_wk [true, true, true, true, false, true, false, false, false, false] rfl rfl (T_X11_worth_17 G a0 a1 0 8 M0)
  · refine j_ldc2 (x := (-9223372036854775808)) ⟨by decide, by decide⟩ (show Cond.constantLong _ _ _ ∈ lw_tbl from wd_1305) d_X11_worth_7 ?_
    exact j_lret d_X11_worth_10 rfl rfl ⟨rfl, rfl⟩
set_option maxHeartbeats 4000000 in
set_option maxRecDepth 100000 in
theorem c_X11_worth (G : tp_G) (a0 : Int) (a1 : Int) (M0 : tp_M) (r : Int) (h : f_X11_worth a0 a1 M0 = some r) (l : Launch) : Met l y_X11_worth (tp_ws y_X11_worth i_X11_worth) (tp_rm 1) (tp_Pc G [.inr (.inr 483), .inl a0, .inl a1] tp_NC (tp_st M0)) (tp_Q G ((o_X11_worth M0) r)) 0 0 (tp_A G) :=
  tp_met (I := i_X11_worth) (y := y_X11_worth) (by decide +kernel) (Eq.refl "TypesAtPrimeModel") (Eq.refl "worth") (lv := [some (.inr (.inr 483)), some (.inl a0), some (.inl a1), none, none, none, none, none, none, none]) rfl (Nat.le_of_ble_eq_true rfl) (T_X11_worth G a0 a1 M0) h l
theorem wd_1036 : (.fieldLink "TypesAtPrimeModel" 20 "TypesAtPrimeModel" "row" "[J" : Cond) ∈ lw_tbl := List.mem_append_right _ (List.mem_of_getElem? (i := 1036) (by decide +kernel))
theorem fl_Model_20 : tp_F "TypesAtPrimeModel" 20 11 8 2 := ⟨_, _, _, rfl, by decide, rfl, wd_1036, rfl, by decide⟩
theorem tg_487 : tp_tg 487 = 22 := by decide +kernel
theorem al_487 : tp_al 487 = 24 := by decide +kernel
theorem rv_483_8 : tp_rv 483 8 = 487 := by decide +kernel
theorem wd_1037 : (.fieldLink "TypesAtPrimeModel" 23 "TypesAtPrimeModel" "keys" "[J" : Cond) ∈ lw_tbl := List.mem_append_right _ (List.mem_of_getElem? (i := 1037) (by decide +kernel))
theorem fl_Model_23 : tp_F "TypesAtPrimeModel" 23 11 9 2 := ⟨_, _, _, rfl, by decide, rfl, wd_1037, rfl, by decide⟩
theorem tg_488 : tp_tg 488 = 22 := by decide +kernel
theorem al_488 : tp_al 488 = 369 := by decide +kernel
theorem rv_483_9 : tp_rv 483 9 = 488 := by decide +kernel
theorem wd_1341 : (.code ⟨"TypesAtPrimeModel", "number", "(J)J"⟩ prog_13_method_10_code 5 (some .long) : Cond) ∈ lw_tbl := List.mem_append_right _ (List.mem_of_getElem? (i := 1341) (by decide +kernel))
theorem cs_Model_257 : tp_CS "TypesAtPrimeModel" 257 y_X11_number i_X11_number 1 := ⟨wd_1341, wd_12, by decide, by decide, by decide +kernel⟩
theorem wd_1338 : (.methodLink "TypesAtPrimeModel" 257 ⟨"TypesAtPrimeModel", "number", "(J)J"⟩ : Cond) ∈ lw_tbl := List.mem_append_right _ (List.mem_of_getElem? (i := 1338) (by decide +kernel))
theorem wd_1340 : (.instanceMethod ⟨"TypesAtPrimeModel", "number", "(J)J"⟩ : Cond) ∈ lw_tbl := List.mem_append_right _ (List.mem_of_getElem? (i := 1340) (by decide +kernel))
theorem ws_48 : (.selects "TypesAtPrimeModel" ⟨"TypesAtPrimeModel", "number", "(J)J"⟩ ⟨"TypesAtPrimeModel", "number", "(J)J"⟩ : Cond) ∈ lw_tbl := List.mem_append_left _ (List.mem_of_getElem? (i := 48) (by decide +kernel))
def y_X11_splits : MethodName := ⟨"TypesAtPrimeModel", "splits", "(IIII)V"⟩
abbrev i_X11_splits : tp_I := (prog_13_method_30_code, "TypesAtPrimeModel", none, 8, "splits")
abbrev o_X11_splits : tp_M → tp_O := fun r => (none, tp_NC, tp_st r)
theorem d_X11_splits_0 : decode prog_13_method_30_code 0 = .ok (.iload_n 1, 1) := by decide +kernel
theorem d_X11_splits_1 : decode prog_13_method_30_code 1 = .ok (.istore 5, 2) := by decide +kernel
theorem d_X11_splits_3 : decode prog_13_method_30_code 3 = .ok (.iload 5, 2) := by decide +kernel
theorem d_X11_splits_5 : decode prog_13_method_30_code 5 = .ok (.iload 4, 2) := by decide +kernel
theorem d_X11_splits_7 : decode prog_13_method_30_code 7 = .ok (.iadd, 1) := by decide +kernel
theorem d_X11_splits_8 : decode prog_13_method_30_code 8 = .ok (.iload_n 1, 1) := by decide +kernel
theorem d_X11_splits_9 : decode prog_13_method_30_code 9 = .ok (.iload_n 2, 1) := by decide +kernel
theorem d_X11_splits_10 : decode prog_13_method_30_code 10 = .ok (.iadd, 1) := by decide +kernel
theorem d_X11_splits_11 : decode prog_13_method_30_code 11 = .ok (.if_icmp .ge 100, 3) := by decide +kernel
theorem d_X11_splits_14 : decode prog_13_method_30_code 14 = .ok (.iload_n 1, 1) := by decide +kernel
theorem d_X11_splits_15 : decode prog_13_method_30_code 15 = .ok (.iload_n 2, 1) := by decide +kernel
theorem d_X11_splits_16 : decode prog_13_method_30_code 16 = .ok (.iadd, 1) := by decide +kernel
theorem d_X11_splits_17 : decode prog_13_method_30_code 17 = .ok (.iconst 1, 1) := by decide +kernel
theorem d_X11_splits_18 : decode prog_13_method_30_code 18 = .ok (.isub, 1) := by decide +kernel
theorem d_X11_splits_19 : decode prog_13_method_30_code 19 = .ok (.istore 6, 2) := by decide +kernel
theorem d_X11_splits_21 : decode prog_13_method_30_code 21 = .ok (.iload 6, 2) := by decide +kernel
theorem d_X11_splits_23 : decode prog_13_method_30_code 23 = .ok (.iload 5, 2) := by decide +kernel
theorem d_X11_splits_25 : decode prog_13_method_30_code 25 = .ok (.iload 4, 2) := by decide +kernel
theorem d_X11_splits_27 : decode prog_13_method_30_code 27 = .ok (.iadd, 1) := by decide +kernel
theorem d_X11_splits_28 : decode prog_13_method_30_code 28 = .ok (.if_icmp .lt 73, 3) := by decide +kernel
theorem d_X11_splits_31 : decode prog_13_method_30_code 31 = .ok (.iconst 0, 1) := by decide +kernel
theorem d_X11_splits_32 : decode prog_13_method_30_code 32 = .ok (.istore 7, 2) := by decide +kernel
theorem d_X11_splits_34 : decode prog_13_method_30_code 34 = .ok (.iload 7, 2) := by decide +kernel
theorem d_X11_splits_36 : decode prog_13_method_30_code 36 = .ok (.iload 4, 2) := by decide +kernel
theorem d_X11_splits_38 : decode prog_13_method_30_code 38 = .ok (.if_icmp .ge 57, 3) := by decide +kernel
theorem d_X11_splits_41 : decode prog_13_method_30_code 41 = .ok (.aload_n 0, 1) := by decide +kernel
theorem d_X11_splits_42 : decode prog_13_method_30_code 42 = .ok (.getfield 20, 3) := by decide +kernel
theorem d_X11_splits_45 : decode prog_13_method_30_code 45 = .ok (.iload 6, 2) := by decide +kernel
theorem d_X11_splits_47 : decode prog_13_method_30_code 47 = .ok (.iload 4, 2) := by decide +kernel
theorem d_X11_splits_49 : decode prog_13_method_30_code 49 = .ok (.isub, 1) := by decide +kernel
theorem d_X11_splits_50 : decode prog_13_method_30_code 50 = .ok (.iload 7, 2) := by decide +kernel
theorem d_X11_splits_52 : decode prog_13_method_30_code 52 = .ok (.iadd, 1) := by decide +kernel
theorem d_X11_splits_53 : decode prog_13_method_30_code 53 = .ok (.aload_n 0, 1) := by decide +kernel
theorem d_X11_splits_54 : decode prog_13_method_30_code 54 = .ok (.aload_n 0, 1) := by decide +kernel
theorem d_X11_splits_55 : decode prog_13_method_30_code 55 = .ok (.getfield 20, 3) := by decide +kernel
theorem d_X11_splits_58 : decode prog_13_method_30_code 58 = .ok (.iload 6, 2) := by decide +kernel
theorem d_X11_splits_60 : decode prog_13_method_30_code 60 = .ok (.iload 4, 2) := by decide +kernel
theorem d_X11_splits_62 : decode prog_13_method_30_code 62 = .ok (.isub, 1) := by decide +kernel
theorem d_X11_splits_63 : decode prog_13_method_30_code 63 = .ok (.iload 7, 2) := by decide +kernel
theorem d_X11_splits_65 : decode prog_13_method_30_code 65 = .ok (.iadd, 1) := by decide +kernel
theorem d_X11_splits_66 : decode prog_13_method_30_code 66 = .ok (.laload, 1) := by decide +kernel
theorem d_X11_splits_67 : decode prog_13_method_30_code 67 = .ok (.aload_n 0, 1) := by decide +kernel
theorem d_X11_splits_68 : decode prog_13_method_30_code 68 = .ok (.getfield 20, 3) := by decide +kernel
theorem d_X11_splits_71 : decode prog_13_method_30_code 71 = .ok (.iload 6, 2) := by decide +kernel
theorem d_X11_splits_73 : decode prog_13_method_30_code 73 = .ok (.laload, 1) := by decide +kernel
theorem d_X11_splits_74 : decode prog_13_method_30_code 74 = .ok (.aload_n 0, 1) := by decide +kernel
theorem d_X11_splits_75 : decode prog_13_method_30_code 75 = .ok (.getfield 23, 3) := by decide +kernel
theorem d_X11_splits_78 : decode prog_13_method_30_code 78 = .ok (.iload_n 3, 1) := by decide +kernel
theorem d_X11_splits_79 : decode prog_13_method_30_code 79 = .ok (.iload 7, 2) := by decide +kernel
theorem d_X11_splits_81 : decode prog_13_method_30_code 81 = .ok (.iadd, 1) := by decide +kernel
theorem d_X11_splits_82 : decode prog_13_method_30_code 82 = .ok (.laload, 1) := by decide +kernel
theorem d_X11_splits_83 : decode prog_13_method_30_code 83 = .ok (.lmul, 1) := by decide +kernel
theorem d_X11_splits_84 : decode prog_13_method_30_code 84 = .ok (.lsub, 1) := by decide +kernel
theorem d_X11_splits_85 : decode prog_13_method_30_code 85 = .ok (.invokevirtual 257, 3) := by decide +kernel
theorem d_X11_splits_88 : decode prog_13_method_30_code 88 = .ok (.lastore, 1) := by decide +kernel
theorem d_X11_splits_89 : decode prog_13_method_30_code 89 = .ok (.iinc 7 1, 3) := by decide +kernel
theorem d_X11_splits_92 : decode prog_13_method_30_code 92 = .ok (.goto (-58), 3) := by decide +kernel
theorem d_X11_splits_95 : decode prog_13_method_30_code 95 = .ok (.iinc 6 (-1), 3) := by decide +kernel
theorem d_X11_splits_98 : decode prog_13_method_30_code 98 = .ok (.goto (-77), 3) := by decide +kernel
theorem d_X11_splits_101 : decode prog_13_method_30_code 101 = .ok (.iload 5, 2) := by decide +kernel
theorem d_X11_splits_103 : decode prog_13_method_30_code 103 = .ok (.iload 4, 2) := by decide +kernel
theorem d_X11_splits_105 : decode prog_13_method_30_code 105 = .ok (.iadd, 1) := by decide +kernel
theorem d_X11_splits_106 : decode prog_13_method_30_code 106 = .ok (.istore 5, 2) := by decide +kernel
theorem d_X11_splits_108 : decode prog_13_method_30_code 108 = .ok (.goto (-105), 3) := by decide +kernel
theorem d_X11_splits_111 : decode prog_13_method_30_code 111 = .ok (.return_, 1) := by decide +kernel
def f_X11_splits_34B (rec_3 : Int → tp_M → Option (tp_M)) (rec_21 : Int → tp_M → Option (tp_M)) (x1 : Int) (x2 : Int) (x3 : Int) (x4 : Int) (x5 : Int) (x6 : Int) (rec_34 : Int → tp_M → Option (tp_M)) (x7 : Int) (M0 : tp_M) : Option (tp_M) :=
  if x4 ≤ x7 then
    tp_lt (tp_w (x6 + (-1))) fun y6 =>
    rec_21 y6 M0
  else
    if 0 ≤ (tp_w ((tp_w (x6 - x4)) + x7)) ∧ (tp_w ((tp_w (x6 - x4)) + x7)) < 24 then
      if 0 ≤ x6 ∧ x6 < 24 then
        if 0 ≤ (tp_w (x3 + x7)) ∧ (tp_w (x3 + x7)) < 369 then
          (f_X11_number (tp_wl ((M0 487 (tp_w ((tp_w (x6 - x4)) + x7))) - (tp_wl ((M0 487 x6) * (M0 488 (tp_w (x3 + x7))))))) M0).bind fun r7 =>
          if 0 ≤ (tp_w ((tp_w (x6 - x4)) + x7)) ∧ (tp_w ((tp_w (x6 - x4)) + x7)) < 24 then
            tp_mp (tp_up M0 487 (tp_w ((tp_w (x6 - x4)) + x7)) r7) fun M9 =>
            tp_lt (tp_w (x7 + 1)) fun y10 =>
            rec_34 y10 M9 else none else none else none else none
set_option maxHeartbeats 4000000 in
set_option maxRecDepth 100000 in
theorem T_X11_splits_34B (G : tp_G) (rec_3 : Int → tp_M → Option (tp_M)) (rec_21 : Int → tp_M → Option (tp_M)) (x1 : Int) (x2 : Int) (x3 : Int) (x4 : Int) (x5 : Int) (x6 : Int) (hrec_3 : ∀ (x5' : Int) (M' : tp_M), tp_J i_X11_splits (tp_rm 1) G 0 0 o_X11_splits tp_NC (tp_st M') 0 0 [some (.inr (.inr 483)), some (.inl x1), some (.inl x2), some (.inl x3), some (.inl x4), some (.inl (x5')), none, none] 3 [] (rec_3 x5' M')) (hrec_21 : ∀ (x6' : Int) (M' : tp_M), tp_J i_X11_splits (tp_rm 1) G 0 0 o_X11_splits tp_NC (tp_st M') 0 0 [some (.inr (.inr 483)), some (.inl x1), some (.inl x2), some (.inl x3), some (.inl x4), some (.inl x5), some (.inl (x6')), none] 21 [] (rec_21 x6' M')) (rec_34 : Int → tp_M → Option (tp_M)) (hrec_34 : ∀ (x7' : Int) (M' : tp_M), tp_J i_X11_splits (tp_rm 1) G 0 0 o_X11_splits tp_NC (tp_st M') 0 0 [some (.inr (.inr 483)), some (.inl x1), some (.inl x2), some (.inl x3), some (.inl x4), some (.inl x5), some (.inl x6), some (.inl (x7'))] 34 [] (rec_34 x7' M')) (x7 : Int) (M0 : tp_M) : tp_J i_X11_splits (tp_rm 1) G 0 0 o_X11_splits tp_NC (tp_st M0) 0 0 [some (.inr (.inr 483)), some (.inl x1), some (.inl x2), some (.inl x3), some (.inl x4), some (.inl x5), some (.inl x6), some (.inl x7)] 34 [] (f_X11_splits_34B rec_3 rec_21 x1 x2 x3 x4 x5 x6 rec_34 x7 M0) := by
  unfold f_X11_splits_34B
  refine j_iload d_X11_splits_34 rfl ?_
  refine j_iload d_X11_splits_36 rfl ?_
  refine j_icmp_ge (tgt := 95) d_X11_splits_38 (by decide) (fun h5 => ?_) (fun h5 => ?_)
  · refine j_iincN (lv' := fun y6 => [some (.inr (.inr 483)), some (.inl x1), some (.inl x2), some (.inl x3), some (.inl x4), some (.inl x5), some (.inl y6), some (.inl x7)]) d_X11_splits_95 rfl (Nat.le_of_ble_eq_true rfl) (fun _ => rfl) (fun y6 hy6 => ?_)
    refine j_goto (tgt := 21) d_X11_splits_98 (by decide) ?_
    exact j_wk [true, true, true, true, true, true, true, false] rfl rfl (hrec_21 y6 M0)
  · refine j_aload_n rfl d_X11_splits_41 rfl ?_
    refine j_getr fl_Model_20 tg_483 rv_483_8 d_X11_splits_42 ?_
    refine j_iload d_X11_splits_45 rfl ?_
    refine j_iload d_X11_splits_47 rfl ?_
    refine j_isub d_X11_splits_49 ?_
    refine j_iload d_X11_splits_50 rfl ?_
    refine j_iadd d_X11_splits_52 ?_
    refine j_aload_n rfl d_X11_splits_53 rfl ?_
    refine j_aload_n rfl d_X11_splits_54 rfl ?_
    refine j_getr fl_Model_20 tg_483 rv_483_8 d_X11_splits_55 ?_
    refine j_iload d_X11_splits_58 rfl ?_
    refine j_iload d_X11_splits_60 rfl ?_
    refine j_isub d_X11_splits_62 ?_
    refine j_iload d_X11_splits_63 rfl ?_
    refine j_iadd d_X11_splits_65 ?_
    refine j_lald tg_487 al_487 d_X11_splits_66 ?_
    refine j_aload_n rfl d_X11_splits_67 rfl ?_
    refine j_getr fl_Model_20 tg_483 rv_483_8 d_X11_splits_68 ?_
    refine j_iload d_X11_splits_71 rfl ?_
    refine j_lald tg_487 al_487 d_X11_splits_73 ?_
    refine j_aload_n rfl d_X11_splits_74 rfl ?_
    refine j_getr fl_Model_23 tg_483 rv_483_9 d_X11_splits_75 ?_
    refine j_iload_n rfl d_X11_splits_78 rfl ?_
    refine j_iload d_X11_splits_79 rfl ?_
    refine j_iadd d_X11_splits_81 ?_
    refine j_lald tg_488 al_488 d_X11_splits_82 ?_
    refine j_lmul d_X11_splits_83 ?_
    refine j_lsub d_X11_splits_84 ?_
    refine j_bind (fun r7 h8 => ?_)
    refine j_callV (y := y_X11_number) (I' := i_X11_number) (avs := [.inr (.inl (tp_wl ((M0 487 (tp_w ((tp_w (x6 - x4)) + x7))) - (tp_wl ((M0 487 x6) * (M0 488 (tp_w (x3 + x7))))))))]) (c := 483) (st := [.inl (tp_w ((tp_w (x6 - x4)) + x7)), .inr (.inr 487)]) (c_X11_number G (tp_wl ((M0 487 (tp_w ((tp_w (x6 - x4)) + x7))) - (tp_wl ((M0 487 x6) * (M0 488 (tp_w (x3 + x7))))))) M0 r7 h8) cs_Model_257 wd_1338 wd_1340 ws_48 tg_483 rfl rfl rfl (Nat.le_of_ble_eq_true rfl) ⟨rfl, rfl⟩ ⟨by decide, by decide⟩ ⟨by decide, by decide⟩ d_X11_splits_85 ?_
    refine j_last tg_487 al_487 d_X11_splits_88 (fun M9 hM9 => ?_)
    refine j_iincN (lv' := fun y10 => [some (.inr (.inr 483)), some (.inl x1), some (.inl x2), some (.inl x3), some (.inl x4), some (.inl x5), some (.inl x6), some (.inl y10)]) d_X11_splits_89 rfl (Nat.le_of_ble_eq_true rfl) (fun _ => rfl) (fun y10 hy10 => ?_)
    refine j_goto (tgt := 34) d_X11_splits_92 (by decide) ?_
    exact j_wk [true, true, true, true, true, true, true, true] rfl rfl (hrec_34 y10 M9)
def f_X11_splits_34 (rec_3 : Int → tp_M → Option (tp_M)) (rec_21 : Int → tp_M → Option (tp_M)) (x1 : Int) (x2 : Int) (x3 : Int) (x4 : Int) (x5 : Int) (x6 : Int) (x7 : Int) (M0 : tp_M) : Option (tp_M) := tp_lp (σ := Int × tp_M) (fun rec_ u => f_X11_splits_34B rec_3 rec_21 x1 x2 x3 x4 x5 x6 (fun x7' M0' => rec_ (x7', M0')) u.1 u.2) tp_N (x7, M0)
set_option maxHeartbeats 4000000 in
set_option maxRecDepth 100000 in
theorem T_X11_splits_34 (G : tp_G) (rec_3 : Int → tp_M → Option (tp_M)) (rec_21 : Int → tp_M → Option (tp_M)) (x1 : Int) (x2 : Int) (x3 : Int) (x4 : Int) (x5 : Int) (x6 : Int) (x7 : Int) (M0 : tp_M) (hrec_3 : ∀ (x5' : Int) (M' : tp_M), tp_J i_X11_splits (tp_rm 1) G 0 0 o_X11_splits tp_NC (tp_st M') 0 0 [some (.inr (.inr 483)), some (.inl x1), some (.inl x2), some (.inl x3), some (.inl x4), some (.inl (x5')), none, none] 3 [] (rec_3 x5' M')) (hrec_21 : ∀ (x6' : Int) (M' : tp_M), tp_J i_X11_splits (tp_rm 1) G 0 0 o_X11_splits tp_NC (tp_st M') 0 0 [some (.inr (.inr 483)), some (.inl x1), some (.inl x2), some (.inl x3), some (.inl x4), some (.inl x5), some (.inl (x6')), none] 21 [] (rec_21 x6' M')) : tp_J i_X11_splits (tp_rm 1) G 0 0 o_X11_splits tp_NC (tp_st M0) 0 0 [some (.inr (.inr 483)), some (.inl x1), some (.inl x2), some (.inl x3), some (.inl x4), some (.inl x5), some (.inl x6), some (.inl x7)] 34 [] (f_X11_splits_34 rec_3 rec_21 x1 x2 x3 x4 x5 x6 x7 M0) := by
  unfold f_X11_splits_34
  exact j_lp (σ := Int × tp_M) (n' := fun _ => tp_NC) (g' := fun u => tp_st u.2) (k' := fun _ => 0) (q' := fun _ => 0) (lv' := fun u => [some (.inr (.inr 483)), some (.inl x1), some (.inl x2), some (.inl x3), some (.inl x4), some (.inl x5), some (.inl x6), some (.inl u.1)]) (fun rec_ hrec u => T_X11_splits_34B G rec_3 rec_21 x1 x2 x3 x4 x5 x6 hrec_3 hrec_21 (fun x7' M0' => rec_ (x7', M0')) (fun x7' M0' => hrec (x7', M0')) u.1 u.2) tp_N (x7, M0)
def f_X11_splits_21B (rec_3 : Int → tp_M → Option (tp_M)) (x1 : Int) (x2 : Int) (x3 : Int) (x4 : Int) (x5 : Int) (rec_21 : Int → tp_M → Option (tp_M)) (x6 : Int) (M0 : tp_M) : Option (tp_M) :=
  if x6 < (tp_w (x5 + x4)) then
    tp_lt ((tp_w (x5 + x4))) fun y4 =>
    rec_3 y4 M0
  else
    f_X11_splits_34 rec_3 rec_21 x1 x2 x3 x4 x5 x6 0 M0
set_option maxHeartbeats 4000000 in
set_option maxRecDepth 100000 in
theorem T_X11_splits_21B (G : tp_G) (rec_3 : Int → tp_M → Option (tp_M)) (x1 : Int) (x2 : Int) (x3 : Int) (x4 : Int) (x5 : Int) (hrec_3 : ∀ (x5' : Int) (M' : tp_M), tp_J i_X11_splits (tp_rm 1) G 0 0 o_X11_splits tp_NC (tp_st M') 0 0 [some (.inr (.inr 483)), some (.inl x1), some (.inl x2), some (.inl x3), some (.inl x4), some (.inl (x5')), none, none] 3 [] (rec_3 x5' M')) (rec_21 : Int → tp_M → Option (tp_M)) (hrec_21 : ∀ (x6' : Int) (M' : tp_M), tp_J i_X11_splits (tp_rm 1) G 0 0 o_X11_splits tp_NC (tp_st M') 0 0 [some (.inr (.inr 483)), some (.inl x1), some (.inl x2), some (.inl x3), some (.inl x4), some (.inl x5), some (.inl (x6')), none] 21 [] (rec_21 x6' M')) (x6 : Int) (M0 : tp_M) : tp_J i_X11_splits (tp_rm 1) G 0 0 o_X11_splits tp_NC (tp_st M0) 0 0 [some (.inr (.inr 483)), some (.inl x1), some (.inl x2), some (.inl x3), some (.inl x4), some (.inl x5), some (.inl x6), none] 21 [] (f_X11_splits_21B rec_3 x1 x2 x3 x4 x5 rec_21 x6 M0) := by
  unfold f_X11_splits_21B
  refine j_iload d_X11_splits_21 rfl ?_
  refine j_iload d_X11_splits_23 rfl ?_
  refine j_iload d_X11_splits_25 rfl ?_
  refine j_iadd d_X11_splits_27 ?_
  refine j_icmp_lt (tgt := 101) d_X11_splits_28 (by decide) (fun h3 => ?_) (fun h3 => ?_)
  · refine j_iload d_X11_splits_101 rfl ?_
    refine j_iload d_X11_splits_103 rfl ?_
    refine j_iadd d_X11_splits_105 ?_
    refine j_nmI (fun y4 hy4 => ?_)
    refine j_istore (lv' := [some (.inr (.inr 483)), some (.inl x1), some (.inl x2), some (.inl x3), some (.inl x4), some (.inl y4), some (.inl x6), none]) d_X11_splits_106 (Nat.le_of_ble_eq_true rfl) rfl ?_
    refine j_goto (tgt := 3) d_X11_splits_108 (by decide) ?_
    exact j_wk [true, true, true, true, true, true, false, false] rfl rfl (hrec_3 y4 M0)
  · refine j_iconst ⟨by decide, by decide⟩ d_X11_splits_31 ?_
    refine j_istore (lv' := [some (.inr (.inr 483)), some (.inl x1), some (.inl x2), some (.inl x3), some (.inl x4), some (.inl x5), some (.inl x6), some (.inl 0)]) d_X11_splits_32 (Nat.le_of_ble_eq_true rfl) rfl ?_
    exact j_wk [true, true, true, true, true, true, true, true] rfl rfl (T_X11_splits_34 G rec_3 rec_21 x1 x2 x3 x4 x5 x6 0 M0 hrec_3 hrec_21)
def f_X11_splits_21 (rec_3 : Int → tp_M → Option (tp_M)) (x1 : Int) (x2 : Int) (x3 : Int) (x4 : Int) (x5 : Int) (x6 : Int) (M0 : tp_M) : Option (tp_M) := tp_lp (σ := Int × tp_M) (fun rec_ u => f_X11_splits_21B rec_3 x1 x2 x3 x4 x5 (fun x6' M0' => rec_ (x6', M0')) u.1 u.2) tp_N (x6, M0)
set_option maxHeartbeats 4000000 in
set_option maxRecDepth 100000 in
theorem T_X11_splits_21 (G : tp_G) (rec_3 : Int → tp_M → Option (tp_M)) (x1 : Int) (x2 : Int) (x3 : Int) (x4 : Int) (x5 : Int) (x6 : Int) (M0 : tp_M) (hrec_3 : ∀ (x5' : Int) (M' : tp_M), tp_J i_X11_splits (tp_rm 1) G 0 0 o_X11_splits tp_NC (tp_st M') 0 0 [some (.inr (.inr 483)), some (.inl x1), some (.inl x2), some (.inl x3), some (.inl x4), some (.inl (x5')), none, none] 3 [] (rec_3 x5' M')) : tp_J i_X11_splits (tp_rm 1) G 0 0 o_X11_splits tp_NC (tp_st M0) 0 0 [some (.inr (.inr 483)), some (.inl x1), some (.inl x2), some (.inl x3), some (.inl x4), some (.inl x5), some (.inl x6), none] 21 [] (f_X11_splits_21 rec_3 x1 x2 x3 x4 x5 x6 M0) := by
  unfold f_X11_splits_21
  exact j_lp (σ := Int × tp_M) (n' := fun _ => tp_NC) (g' := fun u => tp_st u.2) (k' := fun _ => 0) (q' := fun _ => 0) (lv' := fun u => [some (.inr (.inr 483)), some (.inl x1), some (.inl x2), some (.inl x3), some (.inl x4), some (.inl x5), some (.inl u.1), none]) (fun rec_ hrec u => T_X11_splits_21B G rec_3 x1 x2 x3 x4 x5 hrec_3 (fun x6' M0' => rec_ (x6', M0')) (fun x6' M0' => hrec (x6', M0')) u.1 u.2) tp_N (x6, M0)
def f_X11_splits_3B (x1 : Int) (x2 : Int) (x3 : Int) (x4 : Int) (rec_3 : Int → tp_M → Option (tp_M)) (x5 : Int) (M0 : tp_M) : Option (tp_M) :=
  if (tp_w (x1 + x2)) ≤ (tp_w (x5 + x4)) then
    some M0
  else
    tp_lt ((tp_w ((tp_w (x1 + x2)) - 1))) fun y2 =>
    f_X11_splits_21 rec_3 x1 x2 x3 x4 x5 y2 M0
set_option maxHeartbeats 4000000 in
set_option maxRecDepth 100000 in
theorem T_X11_splits_3B (G : tp_G) (x1 : Int) (x2 : Int) (x3 : Int) (x4 : Int) (rec_3 : Int → tp_M → Option (tp_M)) (hrec_3 : ∀ (x5' : Int) (M' : tp_M), tp_J i_X11_splits (tp_rm 1) G 0 0 o_X11_splits tp_NC (tp_st M') 0 0 [some (.inr (.inr 483)), some (.inl x1), some (.inl x2), some (.inl x3), some (.inl x4), some (.inl (x5')), none, none] 3 [] (rec_3 x5' M')) (x5 : Int) (M0 : tp_M) : tp_J i_X11_splits (tp_rm 1) G 0 0 o_X11_splits tp_NC (tp_st M0) 0 0 [some (.inr (.inr 483)), some (.inl x1), some (.inl x2), some (.inl x3), some (.inl x4), some (.inl x5), none, none] 3 [] (f_X11_splits_3B x1 x2 x3 x4 rec_3 x5 M0) := by
  unfold f_X11_splits_3B
  refine j_iload d_X11_splits_3 rfl ?_
  refine j_iload d_X11_splits_5 rfl ?_
  refine j_iadd d_X11_splits_7 ?_
  refine j_iload_n rfl d_X11_splits_8 rfl ?_
  refine j_iload_n rfl d_X11_splits_9 rfl ?_
  refine j_iadd d_X11_splits_10 ?_
  refine j_icmp_ge (tgt := 111) d_X11_splits_11 (by decide) (fun h1 => ?_) (fun h1 => ?_)
  · exact j_vret d_X11_splits_111 rfl rfl ⟨rfl, rfl⟩
  · refine j_iload_n rfl d_X11_splits_14 rfl ?_
    refine j_iload_n rfl d_X11_splits_15 rfl ?_
    refine j_iadd d_X11_splits_16 ?_
    refine j_iconst ⟨by decide, by decide⟩ d_X11_splits_17 ?_
    refine j_isub d_X11_splits_18 ?_
    refine j_nmI (fun y2 hy2 => ?_)
    refine j_istore (lv' := [some (.inr (.inr 483)), some (.inl x1), some (.inl x2), some (.inl x3), some (.inl x4), some (.inl x5), some (.inl y2), none]) d_X11_splits_19 (Nat.le_of_ble_eq_true rfl) rfl ?_
    exact j_wk [true, true, true, true, true, true, true, false] rfl rfl (T_X11_splits_21 G rec_3 x1 x2 x3 x4 x5 y2 M0 hrec_3)
def f_X11_splits_3 (x1 : Int) (x2 : Int) (x3 : Int) (x4 : Int) (x5 : Int) (M0 : tp_M) : Option (tp_M) := tp_lp (σ := Int × tp_M) (fun rec_ u => f_X11_splits_3B x1 x2 x3 x4 (fun x5' M0' => rec_ (x5', M0')) u.1 u.2) tp_N (x5, M0)
set_option maxHeartbeats 4000000 in
set_option maxRecDepth 100000 in
theorem T_X11_splits_3 (G : tp_G) (x1 : Int) (x2 : Int) (x3 : Int) (x4 : Int) (x5 : Int) (M0 : tp_M) : tp_J i_X11_splits (tp_rm 1) G 0 0 o_X11_splits tp_NC (tp_st M0) 0 0 [some (.inr (.inr 483)), some (.inl x1), some (.inl x2), some (.inl x3), some (.inl x4), some (.inl x5), none, none] 3 [] (f_X11_splits_3 x1 x2 x3 x4 x5 M0) := by
  unfold f_X11_splits_3
  exact j_lp (σ := Int × tp_M) (n' := fun _ => tp_NC) (g' := fun u => tp_st u.2) (k' := fun _ => 0) (q' := fun _ => 0) (lv' := fun u => [some (.inr (.inr 483)), some (.inl x1), some (.inl x2), some (.inl x3), some (.inl x4), some (.inl u.1), none, none]) (fun rec_ hrec u => T_X11_splits_3B G x1 x2 x3 x4 (fun x5' M0' => rec_ (x5', M0')) (fun x5' M0' => hrec (x5', M0')) u.1 u.2) tp_N (x5, M0)
def f_X11_splits (a0 : Int) (a1 : Int) (a2 : Int) (a3 : Int) (M0 : tp_M) : Option (tp_M) :=
  f_X11_splits_3 a0 a1 a2 a3 a0 M0
set_option maxHeartbeats 4000000 in
set_option maxRecDepth 100000 in
theorem T_X11_splits (G : tp_G) (a0 : Int) (a1 : Int) (a2 : Int) (a3 : Int) (M0 : tp_M) : tp_J i_X11_splits (tp_rm 1) G 0 0 o_X11_splits tp_NC (tp_st M0) 0 0 [some (.inr (.inr 483)), some (.inl a0), some (.inl a1), some (.inl a2), some (.inl a3), none, none, none] 0 [] (f_X11_splits a0 a1 a2 a3 M0) := by
  unfold f_X11_splits
  refine j_iload_n rfl d_X11_splits_0 rfl ?_
  refine j_istore (lv' := [some (.inr (.inr 483)), some (.inl a0), some (.inl a1), some (.inl a2), some (.inl a3), some (.inl a0), none, none]) d_X11_splits_1 (Nat.le_of_ble_eq_true rfl) rfl ?_
  exact j_wk [true, true, true, true, true, true, false, false] rfl rfl (T_X11_splits_3 G a0 a1 a2 a3 a0 M0)
set_option maxHeartbeats 4000000 in
set_option maxRecDepth 100000 in
theorem c_X11_splits (G : tp_G) (a0 : Int) (a1 : Int) (a2 : Int) (a3 : Int) (M0 : tp_M) (r : tp_M) (h : f_X11_splits a0 a1 a2 a3 M0 = some r) (l : Launch) : Met l y_X11_splits (tp_ws y_X11_splits i_X11_splits) (tp_rm 1) (tp_Pc G [.inr (.inr 483), .inl a0, .inl a1, .inl a2, .inl a3] tp_NC (tp_st M0)) (tp_Q G (o_X11_splits r)) 0 0 (tp_A G) :=
  tp_met (I := i_X11_splits) (y := y_X11_splits) (by decide +kernel) (Eq.refl "TypesAtPrimeModel") (Eq.refl "splits") (lv := [some (.inr (.inr 483)), some (.inl a0), some (.inl a1), some (.inl a2), some (.inl a3), none, none, none]) rfl (Nat.le_of_ble_eq_true rfl) (T_X11_splits G a0 a1 a2 a3 M0) h l
theorem wd_1345 : (.code ⟨"TypesAtPrimeModel", "splits", "(IIII)V"⟩ prog_13_method_30_code 8 (none : Option Jvm.ClassFile.FieldType) : Cond) ∈ lw_tbl := List.mem_append_right _ (List.mem_of_getElem? (i := 1345) (by decide +kernel))
theorem cs_Model_261 : tp_CS "TypesAtPrimeModel" 261 y_X11_splits i_X11_splits 4 := ⟨wd_1345, wd_12, by decide, by decide, by decide +kernel⟩
theorem wd_1342 : (.methodLink "TypesAtPrimeModel" 261 ⟨"TypesAtPrimeModel", "splits", "(IIII)V"⟩ : Cond) ∈ lw_tbl := List.mem_append_right _ (List.mem_of_getElem? (i := 1342) (by decide +kernel))
theorem wd_1344 : (.instanceMethod ⟨"TypesAtPrimeModel", "splits", "(IIII)V"⟩ : Cond) ∈ lw_tbl := List.mem_append_right _ (List.mem_of_getElem? (i := 1344) (by decide +kernel))
theorem ws_49 : (.selects "TypesAtPrimeModel" ⟨"TypesAtPrimeModel", "splits", "(IIII)V"⟩ ⟨"TypesAtPrimeModel", "splits", "(IIII)V"⟩ : Cond) ∈ lw_tbl := List.mem_append_left _ (List.mem_of_getElem? (i := 49) (by decide +kernel))
def y_X11_expansion : MethodName := ⟨"TypesAtPrimeModel", "expansion", "(IIII)J"⟩
abbrev i_X11_expansion : tp_I := (prog_13_method_31_code, "TypesAtPrimeModel", (some .long), 7, "expansion")
abbrev o_X11_expansion : Int × tp_M → tp_O := fun r => (some (.inr (.inl r.1)), tp_NC, tp_st r.2)
theorem d_X11_expansion_0 : decode prog_13_method_31_code 0 = .ok (.iload_n 1, 1) := by decide +kernel
theorem d_X11_expansion_1 : decode prog_13_method_31_code 1 = .ok (.invokestatic 231, 3) := by decide +kernel
theorem d_X11_expansion_4 : decode prog_13_method_31_code 4 = .ok (.ifCond .eq 33, 3) := by decide +kernel
theorem d_X11_expansion_7 : decode prog_13_method_31_code 7 = .ok (.iload_n 2, 1) := by decide +kernel
theorem d_X11_expansion_8 : decode prog_13_method_31_code 8 = .ok (.invokestatic 231, 3) := by decide +kernel
theorem d_X11_expansion_11 : decode prog_13_method_31_code 11 = .ok (.ifCond .eq 26, 3) := by decide +kernel
theorem d_X11_expansion_14 : decode prog_13_method_31_code 14 = .ok (.iload_n 3, 1) := by decide +kernel
theorem d_X11_expansion_15 : decode prog_13_method_31_code 15 = .ok (.invokestatic 243, 3) := by decide +kernel
theorem d_X11_expansion_18 : decode prog_13_method_31_code 18 = .ok (.ifCond .eq 19, 3) := by decide +kernel
theorem d_X11_expansion_21 : decode prog_13_method_31_code 21 = .ok (.iload 4, 2) := by decide +kernel
theorem d_X11_expansion_23 : decode prog_13_method_31_code 23 = .ok (.invokestatic 243, 3) := by decide +kernel
theorem d_X11_expansion_26 : decode prog_13_method_31_code 26 = .ok (.ifCond .eq 11, 3) := by decide +kernel
theorem d_X11_expansion_29 : decode prog_13_method_31_code 29 = .ok (.aload_n 0, 1) := by decide +kernel
theorem d_X11_expansion_30 : decode prog_13_method_31_code 30 = .ok (.iload_n 2, 1) := by decide +kernel
theorem d_X11_expansion_31 : decode prog_13_method_31_code 31 = .ok (.invokevirtual 248, 3) := by decide +kernel
theorem d_X11_expansion_34 : decode prog_13_method_31_code 34 = .ok (.ifCond .ne 7, 3) := by decide +kernel
theorem d_X11_expansion_37 : decode prog_13_method_31_code 37 = .ok (.ldc2_w 246, 3) := by decide +kernel
theorem d_X11_expansion_40 : decode prog_13_method_31_code 40 = .ok (.lreturn, 1) := by decide +kernel
theorem d_X11_expansion_41 : decode prog_13_method_31_code 41 = .ok (.aload_n 0, 1) := by decide +kernel
theorem d_X11_expansion_42 : decode prog_13_method_31_code 42 = .ok (.iload_n 2, 1) := by decide +kernel
theorem d_X11_expansion_43 : decode prog_13_method_31_code 43 = .ok (.invokevirtual 187, 3) := by decide +kernel
theorem d_X11_expansion_46 : decode prog_13_method_31_code 46 = .ok (.istore 5, 2) := by decide +kernel
theorem d_X11_expansion_48 : decode prog_13_method_31_code 48 = .ok (.iconst 0, 1) := by decide +kernel
theorem d_X11_expansion_49 : decode prog_13_method_31_code 49 = .ok (.istore 6, 2) := by decide +kernel
theorem d_X11_expansion_51 : decode prog_13_method_31_code 51 = .ok (.iload 6, 2) := by decide +kernel
theorem d_X11_expansion_53 : decode prog_13_method_31_code 53 = .ok (.bipush 9, 2) := by decide +kernel
theorem d_X11_expansion_55 : decode prog_13_method_31_code 55 = .ok (.if_icmp .ge 51, 3) := by decide +kernel
theorem d_X11_expansion_58 : decode prog_13_method_31_code 58 = .ok (.aload_n 0, 1) := by decide +kernel
theorem d_X11_expansion_59 : decode prog_13_method_31_code 59 = .ok (.getfield 20, 3) := by decide +kernel
theorem d_X11_expansion_62 : decode prog_13_method_31_code 62 = .ok (.iload 6, 2) := by decide +kernel
theorem d_X11_expansion_64 : decode prog_13_method_31_code 64 = .ok (.aload_n 0, 1) := by decide +kernel
theorem d_X11_expansion_65 : decode prog_13_method_31_code 65 = .ok (.aload_n 0, 1) := by decide +kernel
theorem d_X11_expansion_66 : decode prog_13_method_31_code 66 = .ok (.iload_n 1, 1) := by decide +kernel
theorem d_X11_expansion_67 : decode prog_13_method_31_code 67 = .ok (.iload 6, 2) := by decide +kernel
theorem d_X11_expansion_69 : decode prog_13_method_31_code 69 = .ok (.invokevirtual 183, 3) := by decide +kernel
theorem d_X11_expansion_72 : decode prog_13_method_31_code 72 = .ok (.i2l, 1) := by decide +kernel
theorem d_X11_expansion_73 : decode prog_13_method_31_code 73 = .ok (.invokevirtual 257, 3) := by decide +kernel
theorem d_X11_expansion_76 : decode prog_13_method_31_code 76 = .ok (.lastore, 1) := by decide +kernel
theorem d_X11_expansion_77 : decode prog_13_method_31_code 77 = .ok (.aload_n 0, 1) := by decide +kernel
theorem d_X11_expansion_78 : decode prog_13_method_31_code 78 = .ok (.getfield 23, 3) := by decide +kernel
theorem d_X11_expansion_81 : decode prog_13_method_31_code 81 = .ok (.sipush 360, 3) := by decide +kernel
theorem d_X11_expansion_84 : decode prog_13_method_31_code 84 = .ok (.iload 6, 2) := by decide +kernel
theorem d_X11_expansion_86 : decode prog_13_method_31_code 86 = .ok (.iadd, 1) := by decide +kernel
theorem d_X11_expansion_87 : decode prog_13_method_31_code 87 = .ok (.aload_n 0, 1) := by decide +kernel
theorem d_X11_expansion_88 : decode prog_13_method_31_code 88 = .ok (.aload_n 0, 1) := by decide +kernel
theorem d_X11_expansion_89 : decode prog_13_method_31_code 89 = .ok (.iload_n 2, 1) := by decide +kernel
theorem d_X11_expansion_90 : decode prog_13_method_31_code 90 = .ok (.iload 6, 2) := by decide +kernel
theorem d_X11_expansion_92 : decode prog_13_method_31_code 92 = .ok (.invokevirtual 183, 3) := by decide +kernel
theorem d_X11_expansion_95 : decode prog_13_method_31_code 95 = .ok (.i2l, 1) := by decide +kernel
theorem d_X11_expansion_96 : decode prog_13_method_31_code 96 = .ok (.invokevirtual 257, 3) := by decide +kernel
theorem d_X11_expansion_99 : decode prog_13_method_31_code 99 = .ok (.lastore, 1) := by decide +kernel
theorem d_X11_expansion_100 : decode prog_13_method_31_code 100 = .ok (.iinc 6 1, 3) := by decide +kernel
theorem d_X11_expansion_103 : decode prog_13_method_31_code 103 = .ok (.goto (-52), 3) := by decide +kernel
theorem d_X11_expansion_106 : decode prog_13_method_31_code 106 = .ok (.aload_n 0, 1) := by decide +kernel
theorem d_X11_expansion_107 : decode prog_13_method_31_code 107 = .ok (.iconst 0, 1) := by decide +kernel
theorem d_X11_expansion_108 : decode prog_13_method_31_code 108 = .ok (.bipush 9, 2) := by decide +kernel
theorem d_X11_expansion_110 : decode prog_13_method_31_code 110 = .ok (.sipush 360, 3) := by decide +kernel
theorem d_X11_expansion_113 : decode prog_13_method_31_code 113 = .ok (.iload 5, 2) := by decide +kernel
theorem d_X11_expansion_115 : decode prog_13_method_31_code 115 = .ok (.invokevirtual 261, 3) := by decide +kernel
theorem d_X11_expansion_118 : decode prog_13_method_31_code 118 = .ok (.iload 4, 2) := by decide +kernel
theorem d_X11_expansion_120 : decode prog_13_method_31_code 120 = .ok (.iload 5, 2) := by decide +kernel
theorem d_X11_expansion_122 : decode prog_13_method_31_code 122 = .ok (.if_icmp .ge 30, 3) := by decide +kernel
theorem d_X11_expansion_125 : decode prog_13_method_31_code 125 = .ok (.iload_n 3, 1) := by decide +kernel
theorem d_X11_expansion_126 : decode prog_13_method_31_code 126 = .ok (.iload 5, 2) := by decide +kernel
theorem d_X11_expansion_128 : decode prog_13_method_31_code 128 = .ok (.imul, 1) := by decide +kernel
theorem d_X11_expansion_129 : decode prog_13_method_31_code 129 = .ok (.iload 4, 2) := by decide +kernel
theorem d_X11_expansion_131 : decode prog_13_method_31_code 131 = .ok (.iadd, 1) := by decide +kernel
theorem d_X11_expansion_132 : decode prog_13_method_31_code 132 = .ok (.bipush 9, 2) := by decide +kernel
theorem d_X11_expansion_134 : decode prog_13_method_31_code 134 = .ok (.if_icmp .ge 18, 3) := by decide +kernel
theorem d_X11_expansion_137 : decode prog_13_method_31_code 137 = .ok (.aload_n 0, 1) := by decide +kernel
theorem d_X11_expansion_138 : decode prog_13_method_31_code 138 = .ok (.getfield 20, 3) := by decide +kernel
theorem d_X11_expansion_141 : decode prog_13_method_31_code 141 = .ok (.iload_n 3, 1) := by decide +kernel
theorem d_X11_expansion_142 : decode prog_13_method_31_code 142 = .ok (.iload 5, 2) := by decide +kernel
theorem d_X11_expansion_144 : decode prog_13_method_31_code 144 = .ok (.imul, 1) := by decide +kernel
theorem d_X11_expansion_145 : decode prog_13_method_31_code 145 = .ok (.iload 4, 2) := by decide +kernel
theorem d_X11_expansion_147 : decode prog_13_method_31_code 147 = .ok (.iadd, 1) := by decide +kernel
theorem d_X11_expansion_148 : decode prog_13_method_31_code 148 = .ok (.laload, 1) := by decide +kernel
theorem d_X11_expansion_149 : decode prog_13_method_31_code 149 = .ok (.goto 4, 3) := by decide +kernel
theorem d_X11_expansion_152 : decode prog_13_method_31_code 152 = .ok (.lconst 0, 1) := by decide +kernel
theorem d_X11_expansion_153 : decode prog_13_method_31_code 153 = .ok (.lreturn, 1) := by decide +kernel
def f_X11_expansion_51B (x1 : Int) (x2 : Int) (x3 : Int) (x4 : Int) (x5 : Int) (rec_51 : Int → tp_M → Option (Int × tp_M)) (x6 : Int) (M0 : tp_M) : Option (Int × tp_M) :=
  if 9 ≤ x6 then
    (f_X11_splits 0 9 360 x5 M0).bind fun r19 =>
    if x5 ≤ x4 then
      some (0, r19)
    else
      if 9 ≤ (tp_w ((tp_w (x3 * x5)) + x4)) then
        some (0, r19)
      else
        if 0 ≤ (tp_w ((tp_w (x3 * x5)) + x4)) ∧ (tp_w ((tp_w (x3 * x5)) + x4)) < 24 then
          some ((r19 487 (tp_w ((tp_w (x3 * x5)) + x4))), r19) else none
  else
    (f_X11_coefficient x1 x6 M0).bind fun r23 =>
    (f_X11_number r23 M0).bind fun r25 =>
    if 0 ≤ x6 ∧ x6 < 24 then
      tp_mp (tp_up M0 487 x6 r25) fun M27 =>
      (f_X11_coefficient x2 x6 M27).bind fun r28 =>
      (f_X11_number r28 M27).bind fun r30 =>
      if 0 ≤ (tp_w (360 + x6)) ∧ (tp_w (360 + x6)) < 369 then
        tp_mp (tp_up M27 488 (tp_w (360 + x6)) r30) fun M32 =>
        tp_lt (tp_w (x6 + 1)) fun y33 =>
        rec_51 y33 M32 else none else none
set_option maxHeartbeats 4000000 in
set_option maxRecDepth 100000 in
theorem T_X11_expansion_51B (G : tp_G) (x1 : Int) (x2 : Int) (x3 : Int) (x4 : Int) (x5 : Int) (rec_51 : Int → tp_M → Option (Int × tp_M)) (hrec_51 : ∀ (x6' : Int) (M' : tp_M), tp_J i_X11_expansion (tp_rm 3) G 0 0 o_X11_expansion tp_NC (tp_st M') 0 0 [some (.inr (.inr 483)), some (.inl x1), some (.inl x2), some (.inl x3), some (.inl x4), some (.inl x5), some (.inl (x6'))] 51 [] (rec_51 x6' M')) (x6 : Int) (M0 : tp_M) : tp_J i_X11_expansion (tp_rm 3) G 0 0 o_X11_expansion tp_NC (tp_st M0) 0 0 [some (.inr (.inr 483)), some (.inl x1), some (.inl x2), some (.inl x3), some (.inl x4), some (.inl x5), some (.inl x6)] 51 [] (f_X11_expansion_51B x1 x2 x3 x4 x5 rec_51 x6 M0) := by
  unfold f_X11_expansion_51B
  refine j_iload d_X11_expansion_51 rfl ?_
  refine j_bipush ⟨by decide, by decide⟩ (by decide +kernel) d_X11_expansion_53 ?_
  refine j_icmp_ge (tgt := 106) d_X11_expansion_55 (by decide) (fun h18 => ?_) (fun h18 => ?_)
  · refine j_aload_n rfl d_X11_expansion_106 rfl ?_
    refine j_iconst ⟨by decide, by decide⟩ d_X11_expansion_107 ?_
    refine j_bipush ⟨by decide, by decide⟩ (by decide +kernel) d_X11_expansion_108 ?_
    refine j_sipush ⟨by decide, by decide⟩ (by decide +kernel) d_X11_expansion_110 ?_
    refine j_iload d_X11_expansion_113 rfl ?_
    refine j_bind (fun r19 h20 => ?_)
    refine j_callV (y := y_X11_splits) (I' := i_X11_splits) (avs := [.inl 0, .inl 9, .inl 360, .inl x5]) (c := 483) (st := []) (c_X11_splits G 0 9 360 x5 M0 r19 h20) cs_Model_261 wd_1342 wd_1344 ws_49 tg_483 rfl rfl rfl (Nat.le_of_ble_eq_true rfl) ⟨rfl, rfl⟩ ⟨by decide, by decide⟩ ⟨by decide, by decide⟩ d_X11_expansion_115 ?_
    refine j_iload d_X11_expansion_118 rfl ?_
    refine j_iload d_X11_expansion_120 rfl ?_
    refine j_icmp_ge (tgt := 152) d_X11_expansion_122 (by decide) (fun h21 => ?_) (fun h21 => ?_)
    · refine j_lconst (x := 0) ⟨by decide, by decide⟩ (by decide +kernel) d_X11_expansion_152 ?_
      exact j_lret d_X11_expansion_153 rfl rfl ⟨rfl, rfl⟩
    · refine j_iload_n rfl d_X11_expansion_125 rfl ?_
      refine j_iload d_X11_expansion_126 rfl ?_
      refine j_imul d_X11_expansion_128 ?_
      refine j_iload d_X11_expansion_129 rfl ?_
      refine j_iadd d_X11_expansion_131 ?_
      refine j_bipush ⟨by decide, by decide⟩ (by decide +kernel) d_X11_expansion_132 ?_
      refine j_icmp_ge (tgt := 152) d_X11_expansion_134 (by decide) (fun h22 => ?_) (fun h22 => ?_)
      · refine j_lconst (x := 0) ⟨by decide, by decide⟩ (by decide +kernel) d_X11_expansion_152 ?_
        exact j_lret d_X11_expansion_153 rfl rfl ⟨rfl, rfl⟩
      · refine j_aload_n rfl d_X11_expansion_137 rfl ?_
        refine j_getr fl_Model_20 tg_483 rv_483_8 d_X11_expansion_138 ?_
        refine j_iload_n rfl d_X11_expansion_141 rfl ?_
        refine j_iload d_X11_expansion_142 rfl ?_
        refine j_imul d_X11_expansion_144 ?_
        refine j_iload d_X11_expansion_145 rfl ?_
        refine j_iadd d_X11_expansion_147 ?_
        refine j_lald tg_487 al_487 d_X11_expansion_148 ?_
        refine j_goto (tgt := 153) d_X11_expansion_149 (by decide) ?_
        exact j_lret d_X11_expansion_153 rfl rfl ⟨rfl, rfl⟩
  · refine j_aload_n rfl d_X11_expansion_58 rfl ?_
    refine j_getr fl_Model_20 tg_483 rv_483_8 d_X11_expansion_59 ?_
    refine j_iload d_X11_expansion_62 rfl ?_
    refine j_aload_n rfl d_X11_expansion_64 rfl ?_
    refine j_aload_n rfl d_X11_expansion_65 rfl ?_
    refine j_iload_n rfl d_X11_expansion_66 rfl ?_
    refine j_iload d_X11_expansion_67 rfl ?_
    refine j_bind (fun r23 h24 => ?_)
    refine j_callV (y := y_X11_coefficient) (I' := i_X11_coefficient) (avs := [.inl x1, .inl x6]) (c := 483) (st := [.inr (.inr 483), .inl x6, .inr (.inr 487)]) (c_X11_coefficient G x1 x6 M0 r23 h24) cs_Model_183 wd_1294 wd_1296 ws_46 tg_483 rfl rfl rfl (Nat.le_of_ble_eq_true rfl) ⟨rfl, rfl⟩ ⟨by decide, by decide⟩ ⟨by decide, by decide⟩ d_X11_expansion_69 ?_
    refine j_i2l d_X11_expansion_72 ?_
    refine j_bind (fun r25 h26 => ?_)
    refine j_callV (y := y_X11_number) (I' := i_X11_number) (avs := [.inr (.inl r23)]) (c := 483) (st := [.inl x6, .inr (.inr 487)]) (c_X11_number G r23 M0 r25 h26) cs_Model_257 wd_1338 wd_1340 ws_48 tg_483 rfl rfl rfl (Nat.le_of_ble_eq_true rfl) ⟨rfl, rfl⟩ ⟨by decide, by decide⟩ ⟨by decide, by decide⟩ d_X11_expansion_73 ?_
    refine j_last tg_487 al_487 d_X11_expansion_76 (fun M27 hM27 => ?_)
    refine j_aload_n rfl d_X11_expansion_77 rfl ?_
    refine j_getr fl_Model_23 tg_483 rv_483_9 d_X11_expansion_78 ?_
    refine j_sipush ⟨by decide, by decide⟩ (by decide +kernel) d_X11_expansion_81 ?_
    refine j_iload d_X11_expansion_84 rfl ?_
    refine j_iadd d_X11_expansion_86 ?_
    refine j_aload_n rfl d_X11_expansion_87 rfl ?_
    refine j_aload_n rfl d_X11_expansion_88 rfl ?_
    refine j_iload_n rfl d_X11_expansion_89 rfl ?_
    refine j_iload d_X11_expansion_90 rfl ?_
    refine j_bind (fun r28 h29 => ?_)
    refine j_callV (y := y_X11_coefficient) (I' := i_X11_coefficient) (avs := [.inl x2, .inl x6]) (c := 483) (st := [.inr (.inr 483), .inl (tp_w (360 + x6)), .inr (.inr 488)]) (c_X11_coefficient G x2 x6 M27 r28 h29) cs_Model_183 wd_1294 wd_1296 ws_46 tg_483 rfl rfl rfl (Nat.le_of_ble_eq_true rfl) ⟨rfl, rfl⟩ ⟨by decide, by decide⟩ ⟨by decide, by decide⟩ d_X11_expansion_92 ?_
    refine j_i2l d_X11_expansion_95 ?_
    refine j_bind (fun r30 h31 => ?_)
    refine j_callV (y := y_X11_number) (I' := i_X11_number) (avs := [.inr (.inl r28)]) (c := 483) (st := [.inl (tp_w (360 + x6)), .inr (.inr 488)]) (c_X11_number G r28 M27 r30 h31) cs_Model_257 wd_1338 wd_1340 ws_48 tg_483 rfl rfl rfl (Nat.le_of_ble_eq_true rfl) ⟨rfl, rfl⟩ ⟨by decide, by decide⟩ ⟨by decide, by decide⟩ d_X11_expansion_96 ?_
    refine j_last tg_488 al_488 d_X11_expansion_99 (fun M32 hM32 => ?_)
    refine j_iincN (lv' := fun y33 => [some (.inr (.inr 483)), some (.inl x1), some (.inl x2), some (.inl x3), some (.inl x4), some (.inl x5), some (.inl y33)]) d_X11_expansion_100 rfl (Nat.le_of_ble_eq_true rfl) (fun _ => rfl) (fun y33 hy33 => ?_)
    refine j_goto (tgt := 51) d_X11_expansion_103 (by decide) ?_
    exact j_wk [true, true, true, true, true, true, true] rfl rfl (hrec_51 y33 M32)
def f_X11_expansion_51 (x1 : Int) (x2 : Int) (x3 : Int) (x4 : Int) (x5 : Int) (x6 : Int) (M0 : tp_M) : Option (Int × tp_M) := tp_lp (σ := Int × tp_M) (fun rec_ u => f_X11_expansion_51B x1 x2 x3 x4 x5 (fun x6' M0' => rec_ (x6', M0')) u.1 u.2) tp_N (x6, M0)
set_option maxHeartbeats 4000000 in
set_option maxRecDepth 100000 in
theorem T_X11_expansion_51 (G : tp_G) (x1 : Int) (x2 : Int) (x3 : Int) (x4 : Int) (x5 : Int) (x6 : Int) (M0 : tp_M) : tp_J i_X11_expansion (tp_rm 3) G 0 0 o_X11_expansion tp_NC (tp_st M0) 0 0 [some (.inr (.inr 483)), some (.inl x1), some (.inl x2), some (.inl x3), some (.inl x4), some (.inl x5), some (.inl x6)] 51 [] (f_X11_expansion_51 x1 x2 x3 x4 x5 x6 M0) := by
  unfold f_X11_expansion_51
  exact j_lp (σ := Int × tp_M) (n' := fun _ => tp_NC) (g' := fun u => tp_st u.2) (k' := fun _ => 0) (q' := fun _ => 0) (lv' := fun u => [some (.inr (.inr 483)), some (.inl x1), some (.inl x2), some (.inl x3), some (.inl x4), some (.inl x5), some (.inl u.1)]) (fun rec_ hrec u => T_X11_expansion_51B G x1 x2 x3 x4 x5 (fun x6' M0' => rec_ (x6', M0')) (fun x6' M0' => hrec (x6', M0')) u.1 u.2) tp_N (x6, M0)
def f_X11_expansion (a0 : Int) (a1 : Int) (a2 : Int) (a3 : Int) (M0 : tp_M) : Option (Int × tp_M) :=
  (f_X11_isSlot a0 M0).bind fun r1 =>
  if r1 = 0 then
    some ((-9223372036854775808), M0)
  else
    (f_X11_isSlot a1 M0).bind fun r4 =>
    if r4 = 0 then
      some ((-9223372036854775808), M0)
    else
      (f_X11_isPower a2 M0).bind fun r7 =>
      if r7 = 0 then
        some ((-9223372036854775808), M0)
      else
        (f_X11_isPower a3 M0).bind fun r10 =>
        if r10 = 0 then
          some ((-9223372036854775808), M0)
        else
          (f_X11_isMonic a1 M0).bind fun r13 =>
          if ¬ r13 = 0 then
            (f_X11_degreeOf a1 M0).bind fun r16 =>
            f_X11_expansion_51 a0 a1 a2 a3 r16 0 M0
          else
            some ((-9223372036854775808), M0)
set_option maxHeartbeats 4000000 in
set_option maxRecDepth 100000 in
theorem T_X11_expansion (G : tp_G) (a0 : Int) (a1 : Int) (a2 : Int) (a3 : Int) (M0 : tp_M) : tp_J i_X11_expansion (tp_rm 3) G 0 0 o_X11_expansion tp_NC (tp_st M0) 0 0 [some (.inr (.inr 483)), some (.inl a0), some (.inl a1), some (.inl a2), some (.inl a3), none, none] 0 [] (f_X11_expansion a0 a1 a2 a3 M0) := by
  unfold f_X11_expansion
  refine j_iload_n rfl d_X11_expansion_0 rfl ?_
  refine j_bind (fun r1 h2 => ?_)
  refine j_callS (y := y_X11_isSlot) (I' := i_X11_isSlot) (avs := [.inl a0]) (st := []) (c_X11_isSlot G a0 M0 r1 h2) cs_Model_231 wd_1250 wd_1251 rfl rfl (Nat.le_of_ble_eq_true rfl) ⟨rfl, rfl⟩ ⟨by decide, by decide⟩ ⟨by decide, by decide⟩ d_X11_expansion_1 ?_
  refine j_if_eq (tgt := 37) d_X11_expansion_4 (by decide) (fun h3 => ?_) (fun h3 => ?_)
  · refine j_ldc2 (x := (-9223372036854775808)) ⟨by decide, by decide⟩ (show Cond.constantLong _ _ _ ∈ lw_tbl from wd_1305) d_X11_expansion_37 ?_
    exact j_lret d_X11_expansion_40 rfl rfl ⟨rfl, rfl⟩
  · refine j_iload_n rfl d_X11_expansion_7 rfl ?_
    refine j_bind (fun r4 h5 => ?_)
    refine j_callS (y := y_X11_isSlot) (I' := i_X11_isSlot) (avs := [.inl a1]) (st := []) (c_X11_isSlot G a1 M0 r4 h5) cs_Model_231 wd_1250 wd_1251 rfl rfl (Nat.le_of_ble_eq_true rfl) ⟨rfl, rfl⟩ ⟨by decide, by decide⟩ ⟨by decide, by decide⟩ d_X11_expansion_8 ?_
    refine j_if_eq (tgt := 37) d_X11_expansion_11 (by decide) (fun h6 => ?_) (fun h6 => ?_)
    · refine j_ldc2 (x := (-9223372036854775808)) ⟨by decide, by decide⟩ (show Cond.constantLong _ _ _ ∈ lw_tbl from wd_1305) d_X11_expansion_37 ?_
      exact j_lret d_X11_expansion_40 rfl rfl ⟨rfl, rfl⟩
    · refine j_iload_n rfl d_X11_expansion_14 rfl ?_
      refine j_bind (fun r7 h8 => ?_)
      refine j_callS (y := y_X11_isPower) (I' := i_X11_isPower) (avs := [.inl a2]) (st := []) (c_X11_isPower G a2 M0 r7 h8) cs_Model_243 wd_1302 wd_1303 rfl rfl (Nat.le_of_ble_eq_true rfl) ⟨rfl, rfl⟩ ⟨by decide, by decide⟩ ⟨by decide, by decide⟩ d_X11_expansion_15 ?_
      refine j_if_eq (tgt := 37) d_X11_expansion_18 (by decide) (fun h9 => ?_) (fun h9 => ?_)
      · refine j_ldc2 (x := (-9223372036854775808)) ⟨by decide, by decide⟩ (show Cond.constantLong _ _ _ ∈ lw_tbl from wd_1305) d_X11_expansion_37 ?_
        exact j_lret d_X11_expansion_40 rfl rfl ⟨rfl, rfl⟩
      · refine j_iload d_X11_expansion_21 rfl ?_
        refine j_bind (fun r10 h11 => ?_)
        refine j_callS (y := y_X11_isPower) (I' := i_X11_isPower) (avs := [.inl a3]) (st := []) (c_X11_isPower G a3 M0 r10 h11) cs_Model_243 wd_1302 wd_1303 rfl rfl (Nat.le_of_ble_eq_true rfl) ⟨rfl, rfl⟩ ⟨by decide, by decide⟩ ⟨by decide, by decide⟩ d_X11_expansion_23 ?_
        refine j_if_eq (tgt := 37) d_X11_expansion_26 (by decide) (fun h12 => ?_) (fun h12 => ?_)
        · refine j_ldc2 (x := (-9223372036854775808)) ⟨by decide, by decide⟩ (show Cond.constantLong _ _ _ ∈ lw_tbl from wd_1305) d_X11_expansion_37 ?_
          exact j_lret d_X11_expansion_40 rfl rfl ⟨rfl, rfl⟩
        · refine j_aload_n rfl d_X11_expansion_29 rfl ?_
          refine j_iload_n rfl d_X11_expansion_30 rfl ?_
          refine j_bind (fun r13 h14 => ?_)
          refine j_callV (y := y_X11_isMonic) (I' := i_X11_isMonic) (avs := [.inl a1]) (c := 483) (st := []) (c_X11_isMonic G a1 M0 r13 h14) cs_Model_248 wd_1314 wd_1316 ws_47 tg_483 rfl rfl rfl (Nat.le_of_ble_eq_true rfl) ⟨rfl, rfl⟩ ⟨by decide, by decide⟩ ⟨by decide, by decide⟩ d_X11_expansion_31 ?_
          refine j_if_ne (tgt := 41) d_X11_expansion_34 (by decide) (fun h15 => ?_) (fun h15 => ?_)
          · refine j_aload_n rfl d_X11_expansion_41 rfl ?_
            refine j_iload_n rfl d_X11_expansion_42 rfl ?_
            refine j_bind (fun r16 h17 => ?_)
            refine j_callV (y := y_X11_degreeOf) (I' := i_X11_degreeOf) (avs := [.inl a1]) (c := 483) (st := []) (c_X11_degreeOf G a1 M0 r16 h17) cs_Model_187 wd_1290 wd_1292 ws_45 tg_483 rfl rfl rfl (Nat.le_of_ble_eq_true rfl) ⟨rfl, rfl⟩ ⟨by decide, by decide⟩ ⟨by decide, by decide⟩ d_X11_expansion_43 ?_
            refine j_istore (lv' := [some (.inr (.inr 483)), some (.inl a0), some (.inl a1), some (.inl a2), some (.inl a3), some (.inl r16), none]) d_X11_expansion_46 (Nat.le_of_ble_eq_true rfl) rfl ?_
            refine j_iconst ⟨by decide, by decide⟩ d_X11_expansion_48 ?_
            refine j_istore (lv' := [some (.inr (.inr 483)), some (.inl a0), some (.inl a1), some (.inl a2), some (.inl a3), some (.inl r16), some (.inl 0)]) d_X11_expansion_49 (Nat.le_of_ble_eq_true rfl) rfl ?_
            exact j_wk [true, true, true, true, true, true, true] rfl rfl (T_X11_expansion_51 G a0 a1 a2 a3 r16 0 M0)
          · refine j_ldc2 (x := (-9223372036854775808)) ⟨by decide, by decide⟩ (show Cond.constantLong _ _ _ ∈ lw_tbl from wd_1305) d_X11_expansion_37 ?_
            exact j_lret d_X11_expansion_40 rfl rfl ⟨rfl, rfl⟩
set_option maxHeartbeats 4000000 in
set_option maxRecDepth 100000 in
theorem c_X11_expansion (G : tp_G) (a0 : Int) (a1 : Int) (a2 : Int) (a3 : Int) (M0 : tp_M) (r : Int × tp_M) (h : f_X11_expansion a0 a1 a2 a3 M0 = some r) (l : Launch) : Met l y_X11_expansion (tp_ws y_X11_expansion i_X11_expansion) (tp_rm 3) (tp_Pc G [.inr (.inr 483), .inl a0, .inl a1, .inl a2, .inl a3] tp_NC (tp_st M0)) (tp_Q G (o_X11_expansion r)) 0 0 (tp_A G) :=
  tp_met (I := i_X11_expansion) (y := y_X11_expansion) (by decide +kernel) (Eq.refl "TypesAtPrimeModel") (Eq.refl "expansion") (lv := [some (.inr (.inr 483)), some (.inl a0), some (.inl a1), some (.inl a2), some (.inl a3), none, none]) rfl (Nat.le_of_ble_eq_true rfl) (T_X11_expansion G a0 a1 a2 a3 M0) h l
def y_X11_inverse : MethodName := ⟨"TypesAtPrimeModel", "inverse", "(I)I"⟩
abbrev i_X11_inverse : tp_I := (prog_13_method_32_code, "TypesAtPrimeModel", (some .int), 3, "inverse")
abbrev o_X11_inverse (M : tp_M) : Int → tp_O := fun r => (some (.inl r), tp_NC, tp_st M)
theorem d_X11_inverse_0 : decode prog_13_method_32_code 0 = .ok (.iconst 1, 1) := by decide +kernel
theorem d_X11_inverse_1 : decode prog_13_method_32_code 1 = .ok (.istore_n 2, 1) := by decide +kernel
theorem d_X11_inverse_2 : decode prog_13_method_32_code 2 = .ok (.iload_n 2, 1) := by decide +kernel
theorem d_X11_inverse_3 : decode prog_13_method_32_code 3 = .ok (.iload_n 1, 1) := by decide +kernel
theorem d_X11_inverse_4 : decode prog_13_method_32_code 4 = .ok (.imul, 1) := by decide +kernel
theorem d_X11_inverse_5 : decode prog_13_method_32_code 5 = .ok (.aload_n 0, 1) := by decide +kernel
theorem d_X11_inverse_6 : decode prog_13_method_32_code 6 = .ok (.getfield 168, 3) := by decide +kernel
theorem d_X11_inverse_9 : decode prog_13_method_32_code 9 = .ok (.irem, 1) := by decide +kernel
theorem d_X11_inverse_10 : decode prog_13_method_32_code 10 = .ok (.iconst 1, 1) := by decide +kernel
theorem d_X11_inverse_11 : decode prog_13_method_32_code 11 = .ok (.if_icmp .eq 9, 3) := by decide +kernel
theorem d_X11_inverse_14 : decode prog_13_method_32_code 14 = .ok (.iinc 2 1, 3) := by decide +kernel
theorem d_X11_inverse_17 : decode prog_13_method_32_code 17 = .ok (.goto (-15), 3) := by decide +kernel
theorem d_X11_inverse_20 : decode prog_13_method_32_code 20 = .ok (.iload_n 2, 1) := by decide +kernel
theorem d_X11_inverse_21 : decode prog_13_method_32_code 21 = .ok (.ireturn, 1) := by decide +kernel
def f_X11_inverse_2B (x1 : Int) (M0 : tp_M) (rec_2 : Int → Option (Int)) (x2 : Int) : Option (Int) :=
  if (M0 483 0) = 0 then none else
    if (Int.tmod (tp_w (x2 * x1)) (M0 483 0)) = 1 then
      some x2
    else
      tp_lt (tp_w (x2 + 1)) fun y2 =>
      rec_2 y2
set_option maxHeartbeats 4000000 in
set_option maxRecDepth 100000 in
theorem T_X11_inverse_2B (G : tp_G) (x1 : Int) (M0 : tp_M) (rec_2 : Int → Option (Int)) (hrec_2 : ∀ (x2' : Int), tp_J i_X11_inverse (tp_rm 0) G 0 0 (o_X11_inverse M0) tp_NC (tp_st M0) 0 0 [some (.inr (.inr 483)), some (.inl x1), some (.inl (x2'))] 2 [] (rec_2 x2')) (x2 : Int) : tp_J i_X11_inverse (tp_rm 0) G 0 0 (o_X11_inverse M0) tp_NC (tp_st M0) 0 0 [some (.inr (.inr 483)), some (.inl x1), some (.inl x2)] 2 [] (f_X11_inverse_2B x1 M0 rec_2 x2) := by
  unfold f_X11_inverse_2B
  refine j_iload_n rfl d_X11_inverse_2 rfl ?_
  refine j_iload_n rfl d_X11_inverse_3 rfl ?_
  refine j_imul d_X11_inverse_4 ?_
  refine j_aload_n rfl d_X11_inverse_5 rfl ?_
  refine j_geti fl_Model_168 tg_483 d_X11_inverse_6 ?_
  refine j_irem d_X11_inverse_9 ?_
  refine j_iconst ⟨by decide, by decide⟩ d_X11_inverse_10 ?_
  refine j_icmp_eq (tgt := 20) d_X11_inverse_11 (by decide) (fun h1 => ?_) (fun h1 => ?_)
  · refine j_iload_n rfl d_X11_inverse_20 rfl ?_
    exact j_iret d_X11_inverse_21 rfl rfl ⟨rfl, rfl⟩
  · refine j_iincN (lv' := fun y2 => [some (.inr (.inr 483)), some (.inl x1), some (.inl y2)]) d_X11_inverse_14 rfl (Nat.le_of_ble_eq_true rfl) (fun _ => rfl) (fun y2 hy2 => ?_)
    refine j_goto (tgt := 2) d_X11_inverse_17 (by decide) ?_
    exact j_wk [true, true, true] rfl rfl (hrec_2 y2)
def f_X11_inverse_2 (x1 : Int) (x2 : Int) (M0 : tp_M) : Option (Int) := tp_lp (σ := Int) (fun rec_ u => f_X11_inverse_2B x1 M0 (fun x2' => rec_ x2') u) tp_N x2
set_option maxHeartbeats 4000000 in
set_option maxRecDepth 100000 in
theorem T_X11_inverse_2 (G : tp_G) (x1 : Int) (x2 : Int) (M0 : tp_M) : tp_J i_X11_inverse (tp_rm 0) G 0 0 (o_X11_inverse M0) tp_NC (tp_st M0) 0 0 [some (.inr (.inr 483)), some (.inl x1), some (.inl x2)] 2 [] (f_X11_inverse_2 x1 x2 M0) := by
  unfold f_X11_inverse_2
  exact j_lp (σ := Int) (n' := fun _ => tp_NC) (g' := fun u => tp_st M0) (k' := fun _ => 0) (q' := fun _ => 0) (lv' := fun u => [some (.inr (.inr 483)), some (.inl x1), some (.inl u)]) (fun rec_ hrec u => T_X11_inverse_2B G x1 M0 (fun x2' => rec_ x2') (fun x2' => hrec x2') u) tp_N x2
def f_X11_inverse (a0 : Int) (M0 : tp_M) : Option (Int) :=
  f_X11_inverse_2 a0 1 M0
set_option maxHeartbeats 4000000 in
set_option maxRecDepth 100000 in
theorem T_X11_inverse (G : tp_G) (a0 : Int) (M0 : tp_M) : tp_J i_X11_inverse (tp_rm 0) G 0 0 (o_X11_inverse M0) tp_NC (tp_st M0) 0 0 [some (.inr (.inr 483)), some (.inl a0), none] 0 [] (f_X11_inverse a0 M0) := by
  unfold f_X11_inverse
  refine j_iconst ⟨by decide, by decide⟩ d_X11_inverse_0 ?_
  refine j_istore_n (lv' := [some (.inr (.inr 483)), some (.inl a0), some (.inl 1)]) rfl d_X11_inverse_1 (Nat.le_of_ble_eq_true rfl) rfl ?_
  exact j_wk [true, true, true] rfl rfl (T_X11_inverse_2 G a0 1 M0)
set_option maxHeartbeats 4000000 in
set_option maxRecDepth 100000 in
theorem c_X11_inverse (G : tp_G) (a0 : Int) (M0 : tp_M) (r : Int) (h : f_X11_inverse a0 M0 = some r) (l : Launch) : Met l y_X11_inverse (tp_ws y_X11_inverse i_X11_inverse) (tp_rm 0) (tp_Pc G [.inr (.inr 483), .inl a0] tp_NC (tp_st M0)) (tp_Q G ((o_X11_inverse M0) r)) 0 0 (tp_A G) :=
  tp_met (I := i_X11_inverse) (y := y_X11_inverse) (by decide +kernel) (Eq.refl "TypesAtPrimeModel") (Eq.refl "inverse") (lv := [some (.inr (.inr 483)), some (.inl a0), none]) rfl (Nat.le_of_ble_eq_true rfl) (T_X11_inverse G a0 M0) h l
theorem wd_1039 : (.fieldLink "TypesAtPrimeModel" 265 "TypesAtPrimeModel" "leftDegree" "I" : Cond) ∈ lw_tbl := List.mem_append_right _ (List.mem_of_getElem? (i := 1039) (by decide +kernel))
theorem fl_Model_265 : tp_F "TypesAtPrimeModel" 265 11 11 0 := ⟨_, _, _, rfl, by decide, rfl, wd_1039, rfl, by decide⟩
theorem pf_11_11 (v : Int) : ∀ (C : String) (T : u_T) (N : Nat), vwCl[11]? = some (C, T, N) → (T 11).2.2.2 = false ∧ ∀ G : tp_G, ∃ ty, parseFieldDescriptor (T 11).2.2.1 = some ty ∧ narrow ty (tp_enc G (tp_zv 0 v)) = tp_enc G (tp_zv 0 v) ∧ fits ty (tp_enc G (tp_zv 0 v)) = true := by
  intro C T N h
  cases h
  exact ⟨rfl, fun G => ⟨_, tyX11_ok 11 (by decide), rfl, rfl⟩⟩
theorem wd_1038 : (.fieldLink "TypesAtPrimeModel" 26 "TypesAtPrimeModel" "left" "[I" : Cond) ∈ lw_tbl := List.mem_append_right _ (List.mem_of_getElem? (i := 1038) (by decide +kernel))
theorem fl_Model_26 : tp_F "TypesAtPrimeModel" 26 11 10 2 := ⟨_, _, _, rfl, by decide, rfl, wd_1038, rfl, by decide⟩
theorem tg_489 : tp_tg 489 = 21 := by decide +kernel
theorem al_489 : tp_al 489 = 9 := by decide +kernel
theorem rv_483_10 : tp_rv 483 10 = 489 := by decide +kernel
def y_X11_measures : MethodName := ⟨"TypesAtPrimeModel", "measures", "()V"⟩
abbrev i_X11_measures : tp_I := (prog_13_method_33_code, "TypesAtPrimeModel", none, 2, "measures")
abbrev o_X11_measures : tp_M → tp_O := fun r => (none, tp_NC, tp_st r)
theorem d_X11_measures_0 : decode prog_13_method_33_code 0 = .ok (.aload_n 0, 1) := by decide +kernel
theorem d_X11_measures_1 : decode prog_13_method_33_code 1 = .ok (.iconst (-1), 1) := by decide +kernel
theorem d_X11_measures_2 : decode prog_13_method_33_code 2 = .ok (.putfield 265, 3) := by decide +kernel
theorem d_X11_measures_5 : decode prog_13_method_33_code 5 = .ok (.iconst 0, 1) := by decide +kernel
theorem d_X11_measures_6 : decode prog_13_method_33_code 6 = .ok (.istore_n 1, 1) := by decide +kernel
theorem d_X11_measures_7 : decode prog_13_method_33_code 7 = .ok (.iload_n 1, 1) := by decide +kernel
theorem d_X11_measures_8 : decode prog_13_method_33_code 8 = .ok (.bipush 9, 2) := by decide +kernel
theorem d_X11_measures_10 : decode prog_13_method_33_code 10 = .ok (.if_icmp .ge 30, 3) := by decide +kernel
theorem d_X11_measures_13 : decode prog_13_method_33_code 13 = .ok (.aload_n 0, 1) := by decide +kernel
theorem d_X11_measures_14 : decode prog_13_method_33_code 14 = .ok (.aload_n 0, 1) := by decide +kernel
theorem d_X11_measures_15 : decode prog_13_method_33_code 15 = .ok (.getfield 26, 3) := by decide +kernel
theorem d_X11_measures_18 : decode prog_13_method_33_code 18 = .ok (.iload_n 1, 1) := by decide +kernel
theorem d_X11_measures_19 : decode prog_13_method_33_code 19 = .ok (.iaload, 1) := by decide +kernel
theorem d_X11_measures_20 : decode prog_13_method_33_code 20 = .ok (.ifCond .eq 7, 3) := by decide +kernel
theorem d_X11_measures_23 : decode prog_13_method_33_code 23 = .ok (.iload_n 1, 1) := by decide +kernel
theorem d_X11_measures_24 : decode prog_13_method_33_code 24 = .ok (.goto 7, 3) := by decide +kernel
theorem d_X11_measures_27 : decode prog_13_method_33_code 27 = .ok (.aload_n 0, 1) := by decide +kernel
theorem d_X11_measures_28 : decode prog_13_method_33_code 28 = .ok (.getfield 265, 3) := by decide +kernel
theorem d_X11_measures_31 : decode prog_13_method_33_code 31 = .ok (.putfield 265, 3) := by decide +kernel
theorem d_X11_measures_34 : decode prog_13_method_33_code 34 = .ok (.iinc 1 1, 3) := by decide +kernel
theorem d_X11_measures_37 : decode prog_13_method_33_code 37 = .ok (.goto (-30), 3) := by decide +kernel
theorem d_X11_measures_40 : decode prog_13_method_33_code 40 = .ok (.return_, 1) := by decide +kernel
def f_X11_measures_31 (rec_7 : Int → tp_M → Option (tp_M)) (x1 : Int) (s0 : Int) (M0 : tp_M) : Option (tp_M) :=
  tp_mp (tp_up M0 483 11 s0) fun M4 =>
  tp_lt (tp_w (x1 + 1)) fun y5 =>
  rec_7 y5 M4
set_option maxHeartbeats 4000000 in
set_option maxRecDepth 100000 in
theorem T_X11_measures_31 (G : tp_G) (rec_7 : Int → tp_M → Option (tp_M)) (x1 : Int) (s0 : Int) (M0 : tp_M) (hrec_7 : ∀ (x1' : Int) (M' : tp_M), tp_J i_X11_measures (tp_rm 0) G 0 0 o_X11_measures tp_NC (tp_st M') 0 0 [some (.inr (.inr 483)), some (.inl (x1'))] 7 [] (rec_7 x1' M')) : tp_J i_X11_measures (tp_rm 0) G 0 0 o_X11_measures tp_NC (tp_st M0) 0 0 [some (.inr (.inr 483)), some (.inl x1)] 31 [.inl s0, .inr (.inr 483)] (f_X11_measures_31 rec_7 x1 s0 M0) := by
  unfold f_X11_measures_31
  refine j_put (z := 0) (v := s0) fl_Model_265 (by decide) tg_483 (pf_11_11 _) pt_11 d_X11_measures_31 (fun M4 hM4 => ?_)
  refine j_iincN (lv' := fun y5 => [some (.inr (.inr 483)), some (.inl y5)]) d_X11_measures_34 rfl (Nat.le_of_ble_eq_true rfl) (fun _ => rfl) (fun y5 hy5 => ?_)
  refine j_goto (tgt := 7) d_X11_measures_37 (by decide) ?_
  exact j_wk [true, true] rfl rfl (hrec_7 y5 M4)
def f_X11_measures_7B (rec_7 : Int → tp_M → Option (tp_M)) (x1 : Int) (M0 : tp_M) : Option (tp_M) :=
  if 9 ≤ x1 then
    some M0
  else
    if 0 ≤ x1 ∧ x1 < 9 then
      if (M0 489 x1) = 0 then
        f_X11_measures_31 rec_7 x1 (M0 483 11) M0
      else
        f_X11_measures_31 rec_7 x1 x1 M0 else none
set_option maxHeartbeats 4000000 in
set_option maxRecDepth 100000 in
theorem T_X11_measures_7B (G : tp_G) (rec_7 : Int → tp_M → Option (tp_M)) (hrec_7 : ∀ (x1' : Int) (M' : tp_M), tp_J i_X11_measures (tp_rm 0) G 0 0 o_X11_measures tp_NC (tp_st M') 0 0 [some (.inr (.inr 483)), some (.inl (x1'))] 7 [] (rec_7 x1' M')) (x1 : Int) (M0 : tp_M) : tp_J i_X11_measures (tp_rm 0) G 0 0 o_X11_measures tp_NC (tp_st M0) 0 0 [some (.inr (.inr 483)), some (.inl x1)] 7 [] (f_X11_measures_7B rec_7 x1 M0) := by
  unfold f_X11_measures_7B
  refine j_iload_n rfl d_X11_measures_7 rfl ?_
  refine j_bipush ⟨by decide, by decide⟩ (by decide +kernel) d_X11_measures_8 ?_
  refine j_icmp_ge (tgt := 40) d_X11_measures_10 (by decide) (fun h2 => ?_) (fun h2 => ?_)
  · exact j_vret d_X11_measures_40 rfl rfl ⟨rfl, rfl⟩
  · refine j_aload_n rfl d_X11_measures_13 rfl ?_
    refine j_aload_n rfl d_X11_measures_14 rfl ?_
    refine j_getr fl_Model_26 tg_483 rv_483_10 d_X11_measures_15 ?_
    refine j_iload_n rfl d_X11_measures_18 rfl ?_
    refine j_iald tg_489 al_489 d_X11_measures_19 ?_
    refine j_if_eq (tgt := 27) d_X11_measures_20 (by decide) (fun h3 => ?_) (fun h3 => ?_)
    · refine j_aload_n rfl d_X11_measures_27 rfl ?_
      refine j_geti fl_Model_265 tg_483 d_X11_measures_28 ?_
      exact j_wk [true, true] rfl rfl (T_X11_measures_31 G rec_7 x1 (M0 483 11) M0 hrec_7)
    · refine j_iload_n rfl d_X11_measures_23 rfl ?_
      refine j_goto (tgt := 31) d_X11_measures_24 (by decide) ?_
      exact j_wk [true, true] rfl rfl (T_X11_measures_31 G rec_7 x1 x1 M0 hrec_7)
def f_X11_measures_7 (x1 : Int) (M0 : tp_M) : Option (tp_M) := tp_lp (σ := Int × tp_M) (fun rec_ u => f_X11_measures_7B (fun x1' M0' => rec_ (x1', M0')) u.1 u.2) tp_N (x1, M0)
set_option maxHeartbeats 4000000 in
set_option maxRecDepth 100000 in
theorem T_X11_measures_7 (G : tp_G) (x1 : Int) (M0 : tp_M) : tp_J i_X11_measures (tp_rm 0) G 0 0 o_X11_measures tp_NC (tp_st M0) 0 0 [some (.inr (.inr 483)), some (.inl x1)] 7 [] (f_X11_measures_7 x1 M0) := by
  unfold f_X11_measures_7
  exact j_lp (σ := Int × tp_M) (n' := fun _ => tp_NC) (g' := fun u => tp_st u.2) (k' := fun _ => 0) (q' := fun _ => 0) (lv' := fun u => [some (.inr (.inr 483)), some (.inl u.1)]) (fun rec_ hrec u => T_X11_measures_7B G (fun x1' M0' => rec_ (x1', M0')) (fun x1' M0' => hrec (x1', M0')) u.1 u.2) tp_N (x1, M0)
def f_X11_measures (M0 : tp_M) : Option (tp_M) :=
  tp_mp (tp_up M0 483 11 (-1)) fun M1 =>
  f_X11_measures_7 0 M1
set_option maxHeartbeats 4000000 in
set_option maxRecDepth 100000 in
theorem T_X11_measures (G : tp_G) (M0 : tp_M) : tp_J i_X11_measures (tp_rm 0) G 0 0 o_X11_measures tp_NC (tp_st M0) 0 0 [some (.inr (.inr 483)), none] 0 [] (f_X11_measures M0) := by
  unfold f_X11_measures
  refine j_aload_n rfl d_X11_measures_0 rfl ?_
  refine j_iconst ⟨by decide, by decide⟩ d_X11_measures_1 ?_
  refine j_put (z := 0) (v := (-1)) fl_Model_265 (by decide) tg_483 (pf_11_11 _) pt_11 d_X11_measures_2 (fun M1 hM1 => ?_)
  refine j_iconst ⟨by decide, by decide⟩ d_X11_measures_5 ?_
  refine j_istore_n (lv' := [some (.inr (.inr 483)), some (.inl 0)]) rfl d_X11_measures_6 (Nat.le_of_ble_eq_true rfl) rfl ?_
  exact j_wk [true, true] rfl rfl (T_X11_measures_7 G 0 M1)
set_option maxHeartbeats 4000000 in
set_option maxRecDepth 100000 in
theorem c_X11_measures (G : tp_G) (M0 : tp_M) (r : tp_M) (h : f_X11_measures M0 = some r) (l : Launch) : Met l y_X11_measures (tp_ws y_X11_measures i_X11_measures) (tp_rm 0) (tp_Pc G [.inr (.inr 483)] tp_NC (tp_st M0)) (tp_Q G (o_X11_measures r)) 0 0 (tp_A G) :=
  tp_met (I := i_X11_measures) (y := y_X11_measures) (by decide +kernel) (Eq.refl "TypesAtPrimeModel") (Eq.refl "measures") (lv := [some (.inr (.inr 483)), none]) rfl (Nat.le_of_ble_eq_true rfl) (T_X11_measures G M0) h l
theorem wd_1045 : (.fieldLink "TypesAtPrimeModel" 41 "TypesAtPrimeModel" "rest" "[I" : Cond) ∈ lw_tbl := List.mem_append_right _ (List.mem_of_getElem? (i := 1045) (by decide +kernel))
theorem fl_Model_41 : tp_F "TypesAtPrimeModel" 41 11 17 2 := ⟨_, _, _, rfl, by decide, rfl, wd_1045, rfl, by decide⟩
theorem tg_494 : tp_tg 494 = 21 := by decide +kernel
theorem al_494 : tp_al 494 = 9 := by decide +kernel
theorem rv_483_17 : tp_rv 483 17 = 494 := by decide +kernel
theorem wd_1044 : (.fieldLink "TypesAtPrimeModel" 38 "TypesAtPrimeModel" "trial" "[I" : Cond) ∈ lw_tbl := List.mem_append_right _ (List.mem_of_getElem? (i := 1044) (by decide +kernel))
theorem fl_Model_38 : tp_F "TypesAtPrimeModel" 38 11 16 2 := ⟨_, _, _, rfl, by decide, rfl, wd_1044, rfl, by decide⟩
theorem tg_493 : tp_tg 493 = 21 := by decide +kernel
theorem al_493 : tp_al 493 = 9 := by decide +kernel
theorem rv_483_16 : tp_rv 483 16 = 493 := by decide +kernel
theorem wd_1359 : (.code ⟨"TypesAtPrimeModel", "residue", "(J)I"⟩ prog_13_method_9_code 4 (some .int) : Cond) ∈ lw_tbl := List.mem_append_right _ (List.mem_of_getElem? (i := 1359) (by decide +kernel))
theorem cs_Model_268 : tp_CS "TypesAtPrimeModel" 268 y_X11_residue i_X11_residue 1 := ⟨wd_1359, wd_12, by decide, by decide, by decide +kernel⟩
theorem wd_1356 : (.methodLink "TypesAtPrimeModel" 268 ⟨"TypesAtPrimeModel", "residue", "(J)I"⟩ : Cond) ∈ lw_tbl := List.mem_append_right _ (List.mem_of_getElem? (i := 1356) (by decide +kernel))
theorem wd_1358 : (.instanceMethod ⟨"TypesAtPrimeModel", "residue", "(J)I"⟩ : Cond) ∈ lw_tbl := List.mem_append_right _ (List.mem_of_getElem? (i := 1358) (by decide +kernel))
theorem ws_51 : (.selects "TypesAtPrimeModel" ⟨"TypesAtPrimeModel", "residue", "(J)I"⟩ ⟨"TypesAtPrimeModel", "residue", "(J)I"⟩ : Cond) ∈ lw_tbl := List.mem_append_left _ (List.mem_of_getElem? (i := 51) (by decide +kernel))
def y_X11_divides : MethodName := ⟨"TypesAtPrimeModel", "divides", "(I)Z"⟩
abbrev i_X11_divides : tp_I := (prog_13_method_34_code, "TypesAtPrimeModel", (some .boolean), 4, "divides")
abbrev o_X11_divides : Int × tp_M → tp_O := fun r => (some (.inl r.1), tp_NC, tp_st r.2)
theorem d_X11_divides_0 : decode prog_13_method_34_code 0 = .ok (.iconst 0, 1) := by decide +kernel
theorem d_X11_divides_1 : decode prog_13_method_34_code 1 = .ok (.istore_n 2, 1) := by decide +kernel
theorem d_X11_divides_2 : decode prog_13_method_34_code 2 = .ok (.iload_n 2, 1) := by decide +kernel
theorem d_X11_divides_3 : decode prog_13_method_34_code 3 = .ok (.aload_n 0, 1) := by decide +kernel
theorem d_X11_divides_4 : decode prog_13_method_34_code 4 = .ok (.getfield 265, 3) := by decide +kernel
theorem d_X11_divides_7 : decode prog_13_method_34_code 7 = .ok (.if_icmp .gt 21, 3) := by decide +kernel
theorem d_X11_divides_10 : decode prog_13_method_34_code 10 = .ok (.aload_n 0, 1) := by decide +kernel
theorem d_X11_divides_11 : decode prog_13_method_34_code 11 = .ok (.getfield 41, 3) := by decide +kernel
theorem d_X11_divides_14 : decode prog_13_method_34_code 14 = .ok (.iload_n 2, 1) := by decide +kernel
theorem d_X11_divides_15 : decode prog_13_method_34_code 15 = .ok (.aload_n 0, 1) := by decide +kernel
theorem d_X11_divides_16 : decode prog_13_method_34_code 16 = .ok (.getfield 26, 3) := by decide +kernel
theorem d_X11_divides_19 : decode prog_13_method_34_code 19 = .ok (.iload_n 2, 1) := by decide +kernel
theorem d_X11_divides_20 : decode prog_13_method_34_code 20 = .ok (.iaload, 1) := by decide +kernel
theorem d_X11_divides_21 : decode prog_13_method_34_code 21 = .ok (.iastore, 1) := by decide +kernel
theorem d_X11_divides_22 : decode prog_13_method_34_code 22 = .ok (.iinc 2 1, 3) := by decide +kernel
theorem d_X11_divides_25 : decode prog_13_method_34_code 25 = .ok (.goto (-23), 3) := by decide +kernel
theorem d_X11_divides_28 : decode prog_13_method_34_code 28 = .ok (.aload_n 0, 1) := by decide +kernel
theorem d_X11_divides_29 : decode prog_13_method_34_code 29 = .ok (.getfield 265, 3) := by decide +kernel
theorem d_X11_divides_32 : decode prog_13_method_34_code 32 = .ok (.istore_n 2, 1) := by decide +kernel
theorem d_X11_divides_33 : decode prog_13_method_34_code 33 = .ok (.iload_n 2, 1) := by decide +kernel
theorem d_X11_divides_34 : decode prog_13_method_34_code 34 = .ok (.iload_n 1, 1) := by decide +kernel
theorem d_X11_divides_35 : decode prog_13_method_34_code 35 = .ok (.if_icmp .lt 61, 3) := by decide +kernel
theorem d_X11_divides_38 : decode prog_13_method_34_code 38 = .ok (.iconst 0, 1) := by decide +kernel
theorem d_X11_divides_39 : decode prog_13_method_34_code 39 = .ok (.istore_n 3, 1) := by decide +kernel
theorem d_X11_divides_40 : decode prog_13_method_34_code 40 = .ok (.iload_n 3, 1) := by decide +kernel
theorem d_X11_divides_41 : decode prog_13_method_34_code 41 = .ok (.iload_n 1, 1) := by decide +kernel
theorem d_X11_divides_42 : decode prog_13_method_34_code 42 = .ok (.if_icmp .ge 48, 3) := by decide +kernel
theorem d_X11_divides_45 : decode prog_13_method_34_code 45 = .ok (.aload_n 0, 1) := by decide +kernel
theorem d_X11_divides_46 : decode prog_13_method_34_code 46 = .ok (.getfield 41, 3) := by decide +kernel
theorem d_X11_divides_49 : decode prog_13_method_34_code 49 = .ok (.iload_n 2, 1) := by decide +kernel
theorem d_X11_divides_50 : decode prog_13_method_34_code 50 = .ok (.iload_n 1, 1) := by decide +kernel
theorem d_X11_divides_51 : decode prog_13_method_34_code 51 = .ok (.isub, 1) := by decide +kernel
theorem d_X11_divides_52 : decode prog_13_method_34_code 52 = .ok (.iload_n 3, 1) := by decide +kernel
theorem d_X11_divides_53 : decode prog_13_method_34_code 53 = .ok (.iadd, 1) := by decide +kernel
theorem d_X11_divides_54 : decode prog_13_method_34_code 54 = .ok (.aload_n 0, 1) := by decide +kernel
theorem d_X11_divides_55 : decode prog_13_method_34_code 55 = .ok (.aload_n 0, 1) := by decide +kernel
theorem d_X11_divides_56 : decode prog_13_method_34_code 56 = .ok (.getfield 41, 3) := by decide +kernel
theorem d_X11_divides_59 : decode prog_13_method_34_code 59 = .ok (.iload_n 2, 1) := by decide +kernel
theorem d_X11_divides_60 : decode prog_13_method_34_code 60 = .ok (.iload_n 1, 1) := by decide +kernel
theorem d_X11_divides_61 : decode prog_13_method_34_code 61 = .ok (.isub, 1) := by decide +kernel
theorem d_X11_divides_62 : decode prog_13_method_34_code 62 = .ok (.iload_n 3, 1) := by decide +kernel
theorem d_X11_divides_63 : decode prog_13_method_34_code 63 = .ok (.iadd, 1) := by decide +kernel
theorem d_X11_divides_64 : decode prog_13_method_34_code 64 = .ok (.iaload, 1) := by decide +kernel
theorem d_X11_divides_65 : decode prog_13_method_34_code 65 = .ok (.aload_n 0, 1) := by decide +kernel
theorem d_X11_divides_66 : decode prog_13_method_34_code 66 = .ok (.getfield 41, 3) := by decide +kernel
theorem d_X11_divides_69 : decode prog_13_method_34_code 69 = .ok (.iload_n 2, 1) := by decide +kernel
theorem d_X11_divides_70 : decode prog_13_method_34_code 70 = .ok (.iaload, 1) := by decide +kernel
theorem d_X11_divides_71 : decode prog_13_method_34_code 71 = .ok (.aload_n 0, 1) := by decide +kernel
theorem d_X11_divides_72 : decode prog_13_method_34_code 72 = .ok (.getfield 38, 3) := by decide +kernel
theorem d_X11_divides_75 : decode prog_13_method_34_code 75 = .ok (.iload_n 3, 1) := by decide +kernel
theorem d_X11_divides_76 : decode prog_13_method_34_code 76 = .ok (.iaload, 1) := by decide +kernel
theorem d_X11_divides_77 : decode prog_13_method_34_code 77 = .ok (.imul, 1) := by decide +kernel
theorem d_X11_divides_78 : decode prog_13_method_34_code 78 = .ok (.isub, 1) := by decide +kernel
theorem d_X11_divides_79 : decode prog_13_method_34_code 79 = .ok (.i2l, 1) := by decide +kernel
theorem d_X11_divides_80 : decode prog_13_method_34_code 80 = .ok (.invokevirtual 268, 3) := by decide +kernel
theorem d_X11_divides_83 : decode prog_13_method_34_code 83 = .ok (.iastore, 1) := by decide +kernel
theorem d_X11_divides_84 : decode prog_13_method_34_code 84 = .ok (.iinc 3 1, 3) := by decide +kernel
theorem d_X11_divides_87 : decode prog_13_method_34_code 87 = .ok (.goto (-47), 3) := by decide +kernel
theorem d_X11_divides_90 : decode prog_13_method_34_code 90 = .ok (.iinc 2 (-1), 3) := by decide +kernel
theorem d_X11_divides_93 : decode prog_13_method_34_code 93 = .ok (.goto (-60), 3) := by decide +kernel
theorem d_X11_divides_96 : decode prog_13_method_34_code 96 = .ok (.iconst 1, 1) := by decide +kernel
theorem d_X11_divides_97 : decode prog_13_method_34_code 97 = .ok (.istore_n 2, 1) := by decide +kernel
theorem d_X11_divides_98 : decode prog_13_method_34_code 98 = .ok (.iconst 0, 1) := by decide +kernel
theorem d_X11_divides_99 : decode prog_13_method_34_code 99 = .ok (.istore_n 3, 1) := by decide +kernel
theorem d_X11_divides_100 : decode prog_13_method_34_code 100 = .ok (.iload_n 3, 1) := by decide +kernel
theorem d_X11_divides_101 : decode prog_13_method_34_code 101 = .ok (.iload_n 1, 1) := by decide +kernel
theorem d_X11_divides_102 : decode prog_13_method_34_code 102 = .ok (.if_icmp .ge 28, 3) := by decide +kernel
theorem d_X11_divides_105 : decode prog_13_method_34_code 105 = .ok (.iload_n 2, 1) := by decide +kernel
theorem d_X11_divides_106 : decode prog_13_method_34_code 106 = .ok (.ifCond .eq 16, 3) := by decide +kernel
theorem d_X11_divides_109 : decode prog_13_method_34_code 109 = .ok (.aload_n 0, 1) := by decide +kernel
theorem d_X11_divides_110 : decode prog_13_method_34_code 110 = .ok (.getfield 41, 3) := by decide +kernel
theorem d_X11_divides_113 : decode prog_13_method_34_code 113 = .ok (.iload_n 3, 1) := by decide +kernel
theorem d_X11_divides_114 : decode prog_13_method_34_code 114 = .ok (.iaload, 1) := by decide +kernel
theorem d_X11_divides_115 : decode prog_13_method_34_code 115 = .ok (.ifCond .ne 7, 3) := by decide +kernel
theorem d_X11_divides_118 : decode prog_13_method_34_code 118 = .ok (.iconst 1, 1) := by decide +kernel
theorem d_X11_divides_119 : decode prog_13_method_34_code 119 = .ok (.goto 4, 3) := by decide +kernel
theorem d_X11_divides_122 : decode prog_13_method_34_code 122 = .ok (.iconst 0, 1) := by decide +kernel
theorem d_X11_divides_123 : decode prog_13_method_34_code 123 = .ok (.istore_n 2, 1) := by decide +kernel
theorem d_X11_divides_124 : decode prog_13_method_34_code 124 = .ok (.iinc 3 1, 3) := by decide +kernel
theorem d_X11_divides_127 : decode prog_13_method_34_code 127 = .ok (.goto (-27), 3) := by decide +kernel
theorem d_X11_divides_130 : decode prog_13_method_34_code 130 = .ok (.iconst 0, 1) := by decide +kernel
theorem d_X11_divides_131 : decode prog_13_method_34_code 131 = .ok (.istore_n 3, 1) := by decide +kernel
theorem d_X11_divides_132 : decode prog_13_method_34_code 132 = .ok (.iload_n 3, 1) := by decide +kernel
theorem d_X11_divides_133 : decode prog_13_method_34_code 133 = .ok (.aload_n 0, 1) := by decide +kernel
theorem d_X11_divides_134 : decode prog_13_method_34_code 134 = .ok (.getfield 265, 3) := by decide +kernel
theorem d_X11_divides_137 : decode prog_13_method_34_code 137 = .ok (.if_icmp .gt 41, 3) := by decide +kernel
theorem d_X11_divides_140 : decode prog_13_method_34_code 140 = .ok (.iload_n 2, 1) := by decide +kernel
theorem d_X11_divides_141 : decode prog_13_method_34_code 141 = .ok (.ifCond .eq 37, 3) := by decide +kernel
theorem d_X11_divides_144 : decode prog_13_method_34_code 144 = .ok (.aload_n 0, 1) := by decide +kernel
theorem d_X11_divides_145 : decode prog_13_method_34_code 145 = .ok (.getfield 26, 3) := by decide +kernel
theorem d_X11_divides_148 : decode prog_13_method_34_code 148 = .ok (.iload_n 3, 1) := by decide +kernel
theorem d_X11_divides_149 : decode prog_13_method_34_code 149 = .ok (.iload_n 3, 1) := by decide +kernel
theorem d_X11_divides_150 : decode prog_13_method_34_code 150 = .ok (.iload_n 1, 1) := by decide +kernel
theorem d_X11_divides_151 : decode prog_13_method_34_code 151 = .ok (.iadd, 1) := by decide +kernel
theorem d_X11_divides_152 : decode prog_13_method_34_code 152 = .ok (.aload_n 0, 1) := by decide +kernel
theorem d_X11_divides_153 : decode prog_13_method_34_code 153 = .ok (.getfield 265, 3) := by decide +kernel
theorem d_X11_divides_156 : decode prog_13_method_34_code 156 = .ok (.if_icmp .gt 14, 3) := by decide +kernel
theorem d_X11_divides_159 : decode prog_13_method_34_code 159 = .ok (.aload_n 0, 1) := by decide +kernel
theorem d_X11_divides_160 : decode prog_13_method_34_code 160 = .ok (.getfield 41, 3) := by decide +kernel
theorem d_X11_divides_163 : decode prog_13_method_34_code 163 = .ok (.iload_n 3, 1) := by decide +kernel
theorem d_X11_divides_164 : decode prog_13_method_34_code 164 = .ok (.iload_n 1, 1) := by decide +kernel
theorem d_X11_divides_165 : decode prog_13_method_34_code 165 = .ok (.iadd, 1) := by decide +kernel
theorem d_X11_divides_166 : decode prog_13_method_34_code 166 = .ok (.iaload, 1) := by decide +kernel
theorem d_X11_divides_167 : decode prog_13_method_34_code 167 = .ok (.goto 4, 3) := by decide +kernel
theorem d_X11_divides_170 : decode prog_13_method_34_code 170 = .ok (.iconst 0, 1) := by decide +kernel
theorem d_X11_divides_171 : decode prog_13_method_34_code 171 = .ok (.iastore, 1) := by decide +kernel
theorem d_X11_divides_172 : decode prog_13_method_34_code 172 = .ok (.iinc 3 1, 3) := by decide +kernel
theorem d_X11_divides_175 : decode prog_13_method_34_code 175 = .ok (.goto (-43), 3) := by decide +kernel
theorem d_X11_divides_178 : decode prog_13_method_34_code 178 = .ok (.aload_n 0, 1) := by decide +kernel
theorem d_X11_divides_179 : decode prog_13_method_34_code 179 = .ok (.dup, 1) := by decide +kernel
theorem d_X11_divides_180 : decode prog_13_method_34_code 180 = .ok (.getfield 265, 3) := by decide +kernel
theorem d_X11_divides_183 : decode prog_13_method_34_code 183 = .ok (.iload_n 2, 1) := by decide +kernel
theorem d_X11_divides_184 : decode prog_13_method_34_code 184 = .ok (.ifCond .eq 7, 3) := by decide +kernel
theorem d_X11_divides_187 : decode prog_13_method_34_code 187 = .ok (.iload_n 1, 1) := by decide +kernel
theorem d_X11_divides_188 : decode prog_13_method_34_code 188 = .ok (.goto 4, 3) := by decide +kernel
theorem d_X11_divides_191 : decode prog_13_method_34_code 191 = .ok (.iconst 0, 1) := by decide +kernel
theorem d_X11_divides_192 : decode prog_13_method_34_code 192 = .ok (.isub, 1) := by decide +kernel
theorem d_X11_divides_193 : decode prog_13_method_34_code 193 = .ok (.putfield 265, 3) := by decide +kernel
theorem d_X11_divides_196 : decode prog_13_method_34_code 196 = .ok (.iload_n 2, 1) := by decide +kernel
theorem d_X11_divides_197 : decode prog_13_method_34_code 197 = .ok (.ireturn, 1) := by decide +kernel
def f_X11_divides_178 (x1 : Int) (x2 : Int) (M0 : tp_M) : Option (Int × tp_M) :=
  if x2 = 0 then
    tp_mp (tp_up M0 483 11 (tp_w ((M0 483 11) - 0))) fun M7 =>
    if x2 = 0 ∨ x2 = 1 then
      some (x2, M7) else none
  else
    tp_mp (tp_up M0 483 11 (tp_w ((M0 483 11) - x1))) fun M9 =>
    if x2 = 0 ∨ x2 = 1 then
      some (x2, M9) else none
set_option maxHeartbeats 4000000 in
set_option maxRecDepth 100000 in
theorem T_X11_divides_178 (G : tp_G) (x1 : Int) (x2 : Int) (M0 : tp_M) : tp_J i_X11_divides (tp_rm 1) G 0 0 o_X11_divides tp_NC (tp_st M0) 0 0 [some (.inr (.inr 483)), some (.inl x1), some (.inl x2), none] 178 [] (f_X11_divides_178 x1 x2 M0) := by
  unfold f_X11_divides_178
  refine j_aload_n rfl d_X11_divides_178 rfl ?_
  refine j_dup d_X11_divides_179 (fun G => tp_cat G _) ?_
  refine j_geti fl_Model_265 tg_483 d_X11_divides_180 ?_
  refine j_iload_n rfl d_X11_divides_183 rfl ?_
  refine j_if_eq (tgt := 191) d_X11_divides_184 (by decide) (fun h6 => ?_) (fun h6 => ?_)
  · refine j_iconst ⟨by decide, by decide⟩ d_X11_divides_191 ?_
    refine j_isub d_X11_divides_192 ?_
    refine j_put (z := 0) (v := (tp_w ((M0 483 11) - 0))) fl_Model_265 (by decide) tg_483 (pf_11_11 _) pt_11 d_X11_divides_193 (fun M7 hM7 => ?_)
    refine j_iload_n rfl d_X11_divides_196 rfl ?_
    refine tp_chk (fun h8 => ?_)
    exact j_zret d_X11_divides_197 rfl h8 rfl ⟨rfl, rfl⟩
  · refine j_iload_n rfl d_X11_divides_187 rfl ?_
    refine j_goto (tgt := 192) d_X11_divides_188 (by decide) ?_
    refine j_isub d_X11_divides_192 ?_
    refine j_put (z := 0) (v := (tp_w ((M0 483 11) - x1))) fl_Model_265 (by decide) tg_483 (pf_11_11 _) pt_11 d_X11_divides_193 (fun M9 hM9 => ?_)
    refine j_iload_n rfl d_X11_divides_196 rfl ?_
    refine tp_chk (fun h10 => ?_)
    exact j_zret d_X11_divides_197 rfl h10 rfl ⟨rfl, rfl⟩
def f_X11_divides_171 (rec_132 : Int → tp_M → Option (Int × tp_M)) (x1 : Int) (x2 : Int) (x3 : Int) (s0 : Int) (s1 : Int) (M0 : tp_M) : Option (Int × tp_M) :=
  if 0 ≤ s1 ∧ s1 < 9 then
    tp_mp (tp_up M0 489 s1 s0) fun M13 =>
    tp_lt (tp_w (x3 + 1)) fun y14 =>
    rec_132 y14 M13 else none
set_option maxHeartbeats 4000000 in
set_option maxRecDepth 100000 in
theorem T_X11_divides_171 (G : tp_G) (rec_132 : Int → tp_M → Option (Int × tp_M)) (x1 : Int) (x2 : Int) (x3 : Int) (s0 : Int) (s1 : Int) (M0 : tp_M) (hrec_132 : ∀ (x3' : Int) (M' : tp_M), tp_J i_X11_divides (tp_rm 1) G 0 0 o_X11_divides tp_NC (tp_st M') 0 0 [some (.inr (.inr 483)), some (.inl x1), some (.inl x2), some (.inl (x3'))] 132 [] (rec_132 x3' M')) : tp_J i_X11_divides (tp_rm 1) G 0 0 o_X11_divides tp_NC (tp_st M0) 0 0 [some (.inr (.inr 483)), some (.inl x1), some (.inl x2), some (.inl x3)] 171 [.inl s0, .inl s1, .inr (.inr 489)] (f_X11_divides_171 rec_132 x1 x2 x3 s0 s1 M0) := by
  unfold f_X11_divides_171
  refine j_iast tg_489 al_489 d_X11_divides_171 (fun M13 hM13 => ?_)
  refine j_iincN (lv' := fun y14 => [some (.inr (.inr 483)), some (.inl x1), some (.inl x2), some (.inl y14)]) d_X11_divides_172 rfl (Nat.le_of_ble_eq_true rfl) (fun _ => rfl) (fun y14 hy14 => ?_)
  refine j_goto (tgt := 132) d_X11_divides_175 (by decide) ?_
  exact j_wk [true, true, true, true] rfl rfl (hrec_132 y14 M13)
def f_X11_divides_132B (x1 : Int) (x2 : Int) (rec_132 : Int → tp_M → Option (Int × tp_M)) (x3 : Int) (M0 : tp_M) : Option (Int × tp_M) :=
  if (M0 483 11) < x3 then
    f_X11_divides_178 x1 x2 M0
  else
    if x2 = 0 then
      f_X11_divides_178 x1 x2 M0
    else
      if (M0 483 11) < (tp_w (x3 + x1)) then
        f_X11_divides_171 rec_132 x1 x2 x3 0 x3 M0
      else
        if 0 ≤ (tp_w (x3 + x1)) ∧ (tp_w (x3 + x1)) < 9 then
          f_X11_divides_171 rec_132 x1 x2 x3 (M0 494 (tp_w (x3 + x1))) x3 M0 else none
set_option maxHeartbeats 4000000 in
set_option maxRecDepth 100000 in
theorem T_X11_divides_132B (G : tp_G) (x1 : Int) (x2 : Int) (rec_132 : Int → tp_M → Option (Int × tp_M)) (hrec_132 : ∀ (x3' : Int) (M' : tp_M), tp_J i_X11_divides (tp_rm 1) G 0 0 o_X11_divides tp_NC (tp_st M') 0 0 [some (.inr (.inr 483)), some (.inl x1), some (.inl x2), some (.inl (x3'))] 132 [] (rec_132 x3' M')) (x3 : Int) (M0 : tp_M) : tp_J i_X11_divides (tp_rm 1) G 0 0 o_X11_divides tp_NC (tp_st M0) 0 0 [some (.inr (.inr 483)), some (.inl x1), some (.inl x2), some (.inl x3)] 132 [] (f_X11_divides_132B x1 x2 rec_132 x3 M0) := by
  unfold f_X11_divides_132B
  refine j_iload_n rfl d_X11_divides_132 rfl ?_
  refine j_aload_n rfl d_X11_divides_133 rfl ?_
  refine j_geti fl_Model_265 tg_483 d_X11_divides_134 ?_
  refine j_icmp_gt (tgt := 178) d_X11_divides_137 (by decide) (fun h5 => ?_) (fun h5 => ?_)
  · exact j_wk [true, true, true, false] rfl rfl (T_X11_divides_178 G x1 x2 M0)
  · refine j_iload_n rfl d_X11_divides_140 rfl ?_
    refine j_if_eq (tgt := 178) d_X11_divides_141 (by decide) (fun h11 => ?_) (fun h11 => ?_)
    · exact j_wk [true, true, true, false] rfl rfl (T_X11_divides_178 G x1 x2 M0)
    · refine j_aload_n rfl d_X11_divides_144 rfl ?_
      refine j_getr fl_Model_26 tg_483 rv_483_10 d_X11_divides_145 ?_
      refine j_iload_n rfl d_X11_divides_148 rfl ?_
      refine j_iload_n rfl d_X11_divides_149 rfl ?_
      refine j_iload_n rfl d_X11_divides_150 rfl ?_
      refine j_iadd d_X11_divides_151 ?_
      refine j_aload_n rfl d_X11_divides_152 rfl ?_
      refine j_geti fl_Model_265 tg_483 d_X11_divides_153 ?_
      refine j_icmp_gt (tgt := 170) d_X11_divides_156 (by decide) (fun h12 => ?_) (fun h12 => ?_)
      · refine j_iconst ⟨by decide, by decide⟩ d_X11_divides_170 ?_
        exact j_wk [true, true, true, true] rfl rfl (T_X11_divides_171 G rec_132 x1 x2 x3 0 x3 M0 hrec_132)
      · refine j_aload_n rfl d_X11_divides_159 rfl ?_
        refine j_getr fl_Model_41 tg_483 rv_483_17 d_X11_divides_160 ?_
        refine j_iload_n rfl d_X11_divides_163 rfl ?_
        refine j_iload_n rfl d_X11_divides_164 rfl ?_
        refine j_iadd d_X11_divides_165 ?_
        refine j_iald tg_494 al_494 d_X11_divides_166 ?_
        refine j_goto (tgt := 171) d_X11_divides_167 (by decide) ?_
        exact j_wk [true, true, true, true] rfl rfl (T_X11_divides_171 G rec_132 x1 x2 x3 (M0 494 (tp_w (x3 + x1))) x3 M0 hrec_132)
def f_X11_divides_132 (x1 : Int) (x2 : Int) (x3 : Int) (M0 : tp_M) : Option (Int × tp_M) := tp_lp (σ := Int × tp_M) (fun rec_ u => f_X11_divides_132B x1 x2 (fun x3' M0' => rec_ (x3', M0')) u.1 u.2) tp_N (x3, M0)
set_option maxHeartbeats 4000000 in
set_option maxRecDepth 100000 in
theorem T_X11_divides_132 (G : tp_G) (x1 : Int) (x2 : Int) (x3 : Int) (M0 : tp_M) : tp_J i_X11_divides (tp_rm 1) G 0 0 o_X11_divides tp_NC (tp_st M0) 0 0 [some (.inr (.inr 483)), some (.inl x1), some (.inl x2), some (.inl x3)] 132 [] (f_X11_divides_132 x1 x2 x3 M0) := by
  unfold f_X11_divides_132
  exact j_lp (σ := Int × tp_M) (n' := fun _ => tp_NC) (g' := fun u => tp_st u.2) (k' := fun _ => 0) (q' := fun _ => 0) (lv' := fun u => [some (.inr (.inr 483)), some (.inl x1), some (.inl x2), some (.inl u.1)]) (fun rec_ hrec u => T_X11_divides_132B G x1 x2 (fun x3' M0' => rec_ (x3', M0')) (fun x3' M0' => hrec (x3', M0')) u.1 u.2) tp_N (x3, M0)
def f_X11_divides_123 (rec_100 : Int → Int → Option (Int × tp_M)) (x1 : Int) (x3 : Int) (s0 : Int) (M0 : tp_M) : Option (Int × tp_M) :=
  tp_lt (tp_w (x3 + 1)) fun y16 =>
  rec_100 s0 y16
set_option maxHeartbeats 4000000 in
set_option maxRecDepth 100000 in
theorem T_X11_divides_123 (G : tp_G) (rec_100 : Int → Int → Option (Int × tp_M)) (x1 : Int) (x3 : Int) (s0 : Int) (M0 : tp_M) (hrec_100 : ∀ (x2' x3' : Int), tp_J i_X11_divides (tp_rm 1) G 0 0 o_X11_divides tp_NC (tp_st M0) 0 0 [some (.inr (.inr 483)), some (.inl x1), some (.inl (x2')), some (.inl (x3'))] 100 [] (rec_100 x2' x3')) : tp_J i_X11_divides (tp_rm 1) G 0 0 o_X11_divides tp_NC (tp_st M0) 0 0 [some (.inr (.inr 483)), some (.inl x1), none, some (.inl x3)] 123 [.inl s0] (f_X11_divides_123 rec_100 x1 x3 s0 M0) := by
  unfold f_X11_divides_123
  refine j_istore_n (lv' := [some (.inr (.inr 483)), some (.inl x1), some (.inl s0), some (.inl x3)]) rfl d_X11_divides_123 (Nat.le_of_ble_eq_true rfl) rfl ?_
  refine j_iincN (lv' := fun y16 => [some (.inr (.inr 483)), some (.inl x1), some (.inl s0), some (.inl y16)]) d_X11_divides_124 rfl (Nat.le_of_ble_eq_true rfl) (fun _ => rfl) (fun y16 hy16 => ?_)
  refine j_goto (tgt := 100) d_X11_divides_127 (by decide) ?_
  exact j_wk [true, true, true, true] rfl rfl (hrec_100 s0 y16)
def f_X11_divides_122 (rec_100 : Int → Int → Option (Int × tp_M)) (x1 : Int) (x3 : Int) (M0 : tp_M) : Option (Int × tp_M) :=
  f_X11_divides_123 rec_100 x1 x3 0 M0
set_option maxHeartbeats 4000000 in
set_option maxRecDepth 100000 in
theorem T_X11_divides_122 (G : tp_G) (rec_100 : Int → Int → Option (Int × tp_M)) (x1 : Int) (x3 : Int) (M0 : tp_M) (hrec_100 : ∀ (x2' x3' : Int), tp_J i_X11_divides (tp_rm 1) G 0 0 o_X11_divides tp_NC (tp_st M0) 0 0 [some (.inr (.inr 483)), some (.inl x1), some (.inl (x2')), some (.inl (x3'))] 100 [] (rec_100 x2' x3')) : tp_J i_X11_divides (tp_rm 1) G 0 0 o_X11_divides tp_NC (tp_st M0) 0 0 [some (.inr (.inr 483)), some (.inl x1), none, some (.inl x3)] 122 [] (f_X11_divides_122 rec_100 x1 x3 M0) := by
  unfold f_X11_divides_122
  refine j_iconst ⟨by decide, by decide⟩ d_X11_divides_122 ?_
  exact j_wk [true, true, false, true] rfl rfl (T_X11_divides_123 G rec_100 x1 x3 0 M0 hrec_100)
def f_X11_divides_100B (x1 : Int) (M0 : tp_M) (rec_100 : Int → Int → Option (Int × tp_M)) (x2 : Int) (x3 : Int) : Option (Int × tp_M) :=
  if x1 ≤ x3 then
    f_X11_divides_132 x1 x2 0 M0
  else
    if x2 = 0 then
      f_X11_divides_122 rec_100 x1 x3 M0
    else
      if 0 ≤ x3 ∧ x3 < 9 then
        if ¬ (M0 494 x3) = 0 then
          f_X11_divides_122 rec_100 x1 x3 M0
        else
          f_X11_divides_123 rec_100 x1 x3 1 M0 else none
set_option maxHeartbeats 4000000 in
set_option maxRecDepth 100000 in
theorem T_X11_divides_100B (G : tp_G) (x1 : Int) (M0 : tp_M) (rec_100 : Int → Int → Option (Int × tp_M)) (hrec_100 : ∀ (x2' x3' : Int), tp_J i_X11_divides (tp_rm 1) G 0 0 o_X11_divides tp_NC (tp_st M0) 0 0 [some (.inr (.inr 483)), some (.inl x1), some (.inl (x2')), some (.inl (x3'))] 100 [] (rec_100 x2' x3')) (x2 : Int) (x3 : Int) : tp_J i_X11_divides (tp_rm 1) G 0 0 o_X11_divides tp_NC (tp_st M0) 0 0 [some (.inr (.inr 483)), some (.inl x1), some (.inl x2), some (.inl x3)] 100 [] (f_X11_divides_100B x1 M0 rec_100 x2 x3) := by
  unfold f_X11_divides_100B
  refine j_iload_n rfl d_X11_divides_100 rfl ?_
  refine j_iload_n rfl d_X11_divides_101 rfl ?_
  refine j_icmp_ge (tgt := 130) d_X11_divides_102 (by decide) (fun h4 => ?_) (fun h4 => ?_)
  · refine j_iconst ⟨by decide, by decide⟩ d_X11_divides_130 ?_
    refine j_istore_n (lv' := [some (.inr (.inr 483)), some (.inl x1), some (.inl x2), some (.inl 0)]) rfl d_X11_divides_131 (Nat.le_of_ble_eq_true rfl) rfl ?_
    exact j_wk [true, true, true, true] rfl rfl (T_X11_divides_132 G x1 x2 0 M0)
  · refine j_iload_n rfl d_X11_divides_105 rfl ?_
    refine j_if_eq (tgt := 122) d_X11_divides_106 (by decide) (fun h15 => ?_) (fun h15 => ?_)
    · exact j_wk [true, true, false, true] rfl rfl (T_X11_divides_122 G rec_100 x1 x3 M0 hrec_100)
    · refine j_aload_n rfl d_X11_divides_109 rfl ?_
      refine j_getr fl_Model_41 tg_483 rv_483_17 d_X11_divides_110 ?_
      refine j_iload_n rfl d_X11_divides_113 rfl ?_
      refine j_iald tg_494 al_494 d_X11_divides_114 ?_
      refine j_if_ne (tgt := 122) d_X11_divides_115 (by decide) (fun h17 => ?_) (fun h17 => ?_)
      · exact j_wk [true, true, false, true] rfl rfl (T_X11_divides_122 G rec_100 x1 x3 M0 hrec_100)
      · refine j_iconst ⟨by decide, by decide⟩ d_X11_divides_118 ?_
        refine j_goto (tgt := 123) d_X11_divides_119 (by decide) ?_
        exact j_wk [true, true, false, true] rfl rfl (T_X11_divides_123 G rec_100 x1 x3 1 M0 hrec_100)
def f_X11_divides_100 (x1 : Int) (x2 : Int) (x3 : Int) (M0 : tp_M) : Option (Int × tp_M) := tp_lp (σ := Int × Int) (fun rec_ u => f_X11_divides_100B x1 M0 (fun x2' x3' => rec_ (x2', x3')) u.1 u.2) tp_N (x2, x3)
set_option maxHeartbeats 4000000 in
set_option maxRecDepth 100000 in
theorem T_X11_divides_100 (G : tp_G) (x1 : Int) (x2 : Int) (x3 : Int) (M0 : tp_M) : tp_J i_X11_divides (tp_rm 1) G 0 0 o_X11_divides tp_NC (tp_st M0) 0 0 [some (.inr (.inr 483)), some (.inl x1), some (.inl x2), some (.inl x3)] 100 [] (f_X11_divides_100 x1 x2 x3 M0) := by
  unfold f_X11_divides_100
  exact j_lp (σ := Int × Int) (n' := fun _ => tp_NC) (g' := fun u => tp_st M0) (k' := fun _ => 0) (q' := fun _ => 0) (lv' := fun u => [some (.inr (.inr 483)), some (.inl x1), some (.inl u.1), some (.inl u.2)]) (fun rec_ hrec u => T_X11_divides_100B G x1 M0 (fun x2' x3' => rec_ (x2', x3')) (fun x2' x3' => hrec (x2', x3')) u.1 u.2) tp_N (x2, x3)
def f_X11_divides_40B (rec_33 : Int → tp_M → Option (Int × tp_M)) (x1 : Int) (x2 : Int) (rec_40 : Int → tp_M → Option (Int × tp_M)) (x3 : Int) (M0 : tp_M) : Option (Int × tp_M) :=
  if x1 ≤ x3 then
    tp_lt (tp_w (x2 + (-1))) fun y19 =>
    rec_33 y19 M0
  else
    if 0 ≤ (tp_w ((tp_w (x2 - x1)) + x3)) ∧ (tp_w ((tp_w (x2 - x1)) + x3)) < 9 then
      if 0 ≤ x2 ∧ x2 < 9 then
        if 0 ≤ x3 ∧ x3 < 9 then
          (f_X11_residue (tp_w ((M0 494 (tp_w ((tp_w (x2 - x1)) + x3))) - (tp_w ((M0 494 x2) * (M0 493 x3))))) M0).bind fun r20 =>
          if 0 ≤ (tp_w ((tp_w (x2 - x1)) + x3)) ∧ (tp_w ((tp_w (x2 - x1)) + x3)) < 9 then
            tp_mp (tp_up M0 494 (tp_w ((tp_w (x2 - x1)) + x3)) r20) fun M22 =>
            tp_lt (tp_w (x3 + 1)) fun y23 =>
            rec_40 y23 M22 else none else none else none else none
set_option maxHeartbeats 4000000 in
set_option maxRecDepth 100000 in
theorem T_X11_divides_40B (G : tp_G) (rec_33 : Int → tp_M → Option (Int × tp_M)) (x1 : Int) (x2 : Int) (hrec_33 : ∀ (x2' : Int) (M' : tp_M), tp_J i_X11_divides (tp_rm 1) G 0 0 o_X11_divides tp_NC (tp_st M') 0 0 [some (.inr (.inr 483)), some (.inl x1), some (.inl (x2')), none] 33 [] (rec_33 x2' M')) (rec_40 : Int → tp_M → Option (Int × tp_M)) (hrec_40 : ∀ (x3' : Int) (M' : tp_M), tp_J i_X11_divides (tp_rm 1) G 0 0 o_X11_divides tp_NC (tp_st M') 0 0 [some (.inr (.inr 483)), some (.inl x1), some (.inl x2), some (.inl (x3'))] 40 [] (rec_40 x3' M')) (x3 : Int) (M0 : tp_M) : tp_J i_X11_divides (tp_rm 1) G 0 0 o_X11_divides tp_NC (tp_st M0) 0 0 [some (.inr (.inr 483)), some (.inl x1), some (.inl x2), some (.inl x3)] 40 [] (f_X11_divides_40B rec_33 x1 x2 rec_40 x3 M0) := by
  unfold f_X11_divides_40B
  refine j_iload_n rfl d_X11_divides_40 rfl ?_
  refine j_iload_n rfl d_X11_divides_41 rfl ?_
  refine j_icmp_ge (tgt := 90) d_X11_divides_42 (by decide) (fun h18 => ?_) (fun h18 => ?_)
  · refine j_iincN (lv' := fun y19 => [some (.inr (.inr 483)), some (.inl x1), some (.inl y19), some (.inl x3)]) d_X11_divides_90 rfl (Nat.le_of_ble_eq_true rfl) (fun _ => rfl) (fun y19 hy19 => ?_)
    refine j_goto (tgt := 33) d_X11_divides_93 (by decide) ?_
    exact j_wk [true, true, true, false] rfl rfl (hrec_33 y19 M0)
  · refine j_aload_n rfl d_X11_divides_45 rfl ?_
    refine j_getr fl_Model_41 tg_483 rv_483_17 d_X11_divides_46 ?_
    refine j_iload_n rfl d_X11_divides_49 rfl ?_
    refine j_iload_n rfl d_X11_divides_50 rfl ?_
    refine j_isub d_X11_divides_51 ?_
    refine j_iload_n rfl d_X11_divides_52 rfl ?_
    refine j_iadd d_X11_divides_53 ?_
    refine j_aload_n rfl d_X11_divides_54 rfl ?_
    refine j_aload_n rfl d_X11_divides_55 rfl ?_
    refine j_getr fl_Model_41 tg_483 rv_483_17 d_X11_divides_56 ?_
    refine j_iload_n rfl d_X11_divides_59 rfl ?_
    refine j_iload_n rfl d_X11_divides_60 rfl ?_
    refine j_isub d_X11_divides_61 ?_
    refine j_iload_n rfl d_X11_divides_62 rfl ?_
    refine j_iadd d_X11_divides_63 ?_
    refine j_iald tg_494 al_494 d_X11_divides_64 ?_
    refine j_aload_n rfl d_X11_divides_65 rfl ?_
    refine j_getr fl_Model_41 tg_483 rv_483_17 d_X11_divides_66 ?_
    refine j_iload_n rfl d_X11_divides_69 rfl ?_
    refine j_iald tg_494 al_494 d_X11_divides_70 ?_
    refine j_aload_n rfl d_X11_divides_71 rfl ?_
    refine j_getr fl_Model_38 tg_483 rv_483_16 d_X11_divides_72 ?_
    refine j_iload_n rfl d_X11_divides_75 rfl ?_
    refine j_iald tg_493 al_493 d_X11_divides_76 ?_
    refine j_imul d_X11_divides_77 ?_
    refine j_isub d_X11_divides_78 ?_
    refine j_i2l d_X11_divides_79 ?_
    refine j_bind (fun r20 h21 => ?_)
    refine j_callV (y := y_X11_residue) (I' := i_X11_residue) (avs := [.inr (.inl (tp_w ((M0 494 (tp_w ((tp_w (x2 - x1)) + x3))) - (tp_w ((M0 494 x2) * (M0 493 x3))))))]) (c := 483) (st := [.inl (tp_w ((tp_w (x2 - x1)) + x3)), .inr (.inr 494)]) (c_X11_residue G (tp_w ((M0 494 (tp_w ((tp_w (x2 - x1)) + x3))) - (tp_w ((M0 494 x2) * (M0 493 x3))))) M0 r20 h21) cs_Model_268 wd_1356 wd_1358 ws_51 tg_483 rfl rfl rfl (Nat.le_of_ble_eq_true rfl) ⟨rfl, rfl⟩ ⟨by decide, by decide⟩ ⟨by decide, by decide⟩ d_X11_divides_80 ?_
    refine j_iast tg_494 al_494 d_X11_divides_83 (fun M22 hM22 => ?_)
    refine j_iincN (lv' := fun y23 => [some (.inr (.inr 483)), some (.inl x1), some (.inl x2), some (.inl y23)]) d_X11_divides_84 rfl (Nat.le_of_ble_eq_true rfl) (fun _ => rfl) (fun y23 hy23 => ?_)
    refine j_goto (tgt := 40) d_X11_divides_87 (by decide) ?_
    exact j_wk [true, true, true, true] rfl rfl (hrec_40 y23 M22)
def f_X11_divides_40 (rec_33 : Int → tp_M → Option (Int × tp_M)) (x1 : Int) (x2 : Int) (x3 : Int) (M0 : tp_M) : Option (Int × tp_M) := tp_lp (σ := Int × tp_M) (fun rec_ u => f_X11_divides_40B rec_33 x1 x2 (fun x3' M0' => rec_ (x3', M0')) u.1 u.2) tp_N (x3, M0)
set_option maxHeartbeats 4000000 in
set_option maxRecDepth 100000 in
theorem T_X11_divides_40 (G : tp_G) (rec_33 : Int → tp_M → Option (Int × tp_M)) (x1 : Int) (x2 : Int) (x3 : Int) (M0 : tp_M) (hrec_33 : ∀ (x2' : Int) (M' : tp_M), tp_J i_X11_divides (tp_rm 1) G 0 0 o_X11_divides tp_NC (tp_st M') 0 0 [some (.inr (.inr 483)), some (.inl x1), some (.inl (x2')), none] 33 [] (rec_33 x2' M')) : tp_J i_X11_divides (tp_rm 1) G 0 0 o_X11_divides tp_NC (tp_st M0) 0 0 [some (.inr (.inr 483)), some (.inl x1), some (.inl x2), some (.inl x3)] 40 [] (f_X11_divides_40 rec_33 x1 x2 x3 M0) := by
  unfold f_X11_divides_40
  exact j_lp (σ := Int × tp_M) (n' := fun _ => tp_NC) (g' := fun u => tp_st u.2) (k' := fun _ => 0) (q' := fun _ => 0) (lv' := fun u => [some (.inr (.inr 483)), some (.inl x1), some (.inl x2), some (.inl u.1)]) (fun rec_ hrec u => T_X11_divides_40B G rec_33 x1 x2 hrec_33 (fun x3' M0' => rec_ (x3', M0')) (fun x3' M0' => hrec (x3', M0')) u.1 u.2) tp_N (x3, M0)
def f_X11_divides_33B (x1 : Int) (rec_33 : Int → tp_M → Option (Int × tp_M)) (x2 : Int) (M0 : tp_M) : Option (Int × tp_M) :=
  if x2 < x1 then
    f_X11_divides_100 x1 1 0 M0
  else
    f_X11_divides_40 rec_33 x1 x2 0 M0
set_option maxHeartbeats 4000000 in
set_option maxRecDepth 100000 in
theorem T_X11_divides_33B (G : tp_G) (x1 : Int) (rec_33 : Int → tp_M → Option (Int × tp_M)) (hrec_33 : ∀ (x2' : Int) (M' : tp_M), tp_J i_X11_divides (tp_rm 1) G 0 0 o_X11_divides tp_NC (tp_st M') 0 0 [some (.inr (.inr 483)), some (.inl x1), some (.inl (x2')), none] 33 [] (rec_33 x2' M')) (x2 : Int) (M0 : tp_M) : tp_J i_X11_divides (tp_rm 1) G 0 0 o_X11_divides tp_NC (tp_st M0) 0 0 [some (.inr (.inr 483)), some (.inl x1), some (.inl x2), none] 33 [] (f_X11_divides_33B x1 rec_33 x2 M0) := by
  unfold f_X11_divides_33B
  refine j_iload_n rfl d_X11_divides_33 rfl ?_
  refine j_iload_n rfl d_X11_divides_34 rfl ?_
  refine j_icmp_lt (tgt := 96) d_X11_divides_35 (by decide) (fun h3 => ?_) (fun h3 => ?_)
  · refine j_iconst ⟨by decide, by decide⟩ d_X11_divides_96 ?_
    refine j_istore_n (lv' := [some (.inr (.inr 483)), some (.inl x1), some (.inl 1), none]) rfl d_X11_divides_97 (Nat.le_of_ble_eq_true rfl) rfl ?_
    refine j_iconst ⟨by decide, by decide⟩ d_X11_divides_98 ?_
    refine j_istore_n (lv' := [some (.inr (.inr 483)), some (.inl x1), some (.inl 1), some (.inl 0)]) rfl d_X11_divides_99 (Nat.le_of_ble_eq_true rfl) rfl ?_
    exact j_wk [true, true, true, true] rfl rfl (T_X11_divides_100 G x1 1 0 M0)
  · refine j_iconst ⟨by decide, by decide⟩ d_X11_divides_38 ?_
    refine j_istore_n (lv' := [some (.inr (.inr 483)), some (.inl x1), some (.inl x2), some (.inl 0)]) rfl d_X11_divides_39 (Nat.le_of_ble_eq_true rfl) rfl ?_
    exact j_wk [true, true, true, true] rfl rfl (T_X11_divides_40 G rec_33 x1 x2 0 M0 hrec_33)
def f_X11_divides_33 (x1 : Int) (x2 : Int) (M0 : tp_M) : Option (Int × tp_M) := tp_lp (σ := Int × tp_M) (fun rec_ u => f_X11_divides_33B x1 (fun x2' M0' => rec_ (x2', M0')) u.1 u.2) tp_N (x2, M0)
set_option maxHeartbeats 4000000 in
set_option maxRecDepth 100000 in
theorem T_X11_divides_33 (G : tp_G) (x1 : Int) (x2 : Int) (M0 : tp_M) : tp_J i_X11_divides (tp_rm 1) G 0 0 o_X11_divides tp_NC (tp_st M0) 0 0 [some (.inr (.inr 483)), some (.inl x1), some (.inl x2), none] 33 [] (f_X11_divides_33 x1 x2 M0) := by
  unfold f_X11_divides_33
  exact j_lp (σ := Int × tp_M) (n' := fun _ => tp_NC) (g' := fun u => tp_st u.2) (k' := fun _ => 0) (q' := fun _ => 0) (lv' := fun u => [some (.inr (.inr 483)), some (.inl x1), some (.inl u.1), none]) (fun rec_ hrec u => T_X11_divides_33B G x1 (fun x2' M0' => rec_ (x2', M0')) (fun x2' M0' => hrec (x2', M0')) u.1 u.2) tp_N (x2, M0)
def f_X11_divides_2B (x1 : Int) (rec_2 : Int → tp_M → Option (Int × tp_M)) (x2 : Int) (M0 : tp_M) : Option (Int × tp_M) :=
  if (M0 483 11) < x2 then
    tp_lt ((M0 483 11)) fun y2 =>
    f_X11_divides_33 x1 y2 M0
  else
    if 0 ≤ x2 ∧ x2 < 9 then
      if 0 ≤ x2 ∧ x2 < 9 then
        tp_mp (tp_up M0 494 x2 (M0 489 x2)) fun M24 =>
        tp_lt (tp_w (x2 + 1)) fun y25 =>
        rec_2 y25 M24 else none else none
set_option maxHeartbeats 4000000 in
set_option maxRecDepth 100000 in
theorem T_X11_divides_2B (G : tp_G) (x1 : Int) (rec_2 : Int → tp_M → Option (Int × tp_M)) (hrec_2 : ∀ (x2' : Int) (M' : tp_M), tp_J i_X11_divides (tp_rm 1) G 0 0 o_X11_divides tp_NC (tp_st M') 0 0 [some (.inr (.inr 483)), some (.inl x1), some (.inl (x2')), none] 2 [] (rec_2 x2' M')) (x2 : Int) (M0 : tp_M) : tp_J i_X11_divides (tp_rm 1) G 0 0 o_X11_divides tp_NC (tp_st M0) 0 0 [some (.inr (.inr 483)), some (.inl x1), some (.inl x2), none] 2 [] (f_X11_divides_2B x1 rec_2 x2 M0) := by
  unfold f_X11_divides_2B
  refine j_iload_n rfl d_X11_divides_2 rfl ?_
  refine j_aload_n rfl d_X11_divides_3 rfl ?_
  refine j_geti fl_Model_265 tg_483 d_X11_divides_4 ?_
  refine j_icmp_gt (tgt := 28) d_X11_divides_7 (by decide) (fun h1 => ?_) (fun h1 => ?_)
  · refine j_aload_n rfl d_X11_divides_28 rfl ?_
    refine j_geti fl_Model_265 tg_483 d_X11_divides_29 ?_
    refine j_nmI (fun y2 hy2 => ?_)
    refine j_istore_n (lv' := [some (.inr (.inr 483)), some (.inl x1), some (.inl y2), none]) rfl d_X11_divides_32 (Nat.le_of_ble_eq_true rfl) rfl ?_
    exact j_wk [true, true, true, false] rfl rfl (T_X11_divides_33 G x1 y2 M0)
  · refine j_aload_n rfl d_X11_divides_10 rfl ?_
    refine j_getr fl_Model_41 tg_483 rv_483_17 d_X11_divides_11 ?_
    refine j_iload_n rfl d_X11_divides_14 rfl ?_
    refine j_aload_n rfl d_X11_divides_15 rfl ?_
    refine j_getr fl_Model_26 tg_483 rv_483_10 d_X11_divides_16 ?_
    refine j_iload_n rfl d_X11_divides_19 rfl ?_
    refine j_iald tg_489 al_489 d_X11_divides_20 ?_
    refine j_iast tg_494 al_494 d_X11_divides_21 (fun M24 hM24 => ?_)
    refine j_iincN (lv' := fun y25 => [some (.inr (.inr 483)), some (.inl x1), some (.inl y25), none]) d_X11_divides_22 rfl (Nat.le_of_ble_eq_true rfl) (fun _ => rfl) (fun y25 hy25 => ?_)
    refine j_goto (tgt := 2) d_X11_divides_25 (by decide) ?_
    exact j_wk [true, true, true, false] rfl rfl (hrec_2 y25 M24)
def f_X11_divides_2 (x1 : Int) (x2 : Int) (M0 : tp_M) : Option (Int × tp_M) := tp_lp (σ := Int × tp_M) (fun rec_ u => f_X11_divides_2B x1 (fun x2' M0' => rec_ (x2', M0')) u.1 u.2) tp_N (x2, M0)
set_option maxHeartbeats 4000000 in
set_option maxRecDepth 100000 in
theorem T_X11_divides_2 (G : tp_G) (x1 : Int) (x2 : Int) (M0 : tp_M) : tp_J i_X11_divides (tp_rm 1) G 0 0 o_X11_divides tp_NC (tp_st M0) 0 0 [some (.inr (.inr 483)), some (.inl x1), some (.inl x2), none] 2 [] (f_X11_divides_2 x1 x2 M0) := by
  unfold f_X11_divides_2
  exact j_lp (σ := Int × tp_M) (n' := fun _ => tp_NC) (g' := fun u => tp_st u.2) (k' := fun _ => 0) (q' := fun _ => 0) (lv' := fun u => [some (.inr (.inr 483)), some (.inl x1), some (.inl u.1), none]) (fun rec_ hrec u => T_X11_divides_2B G x1 (fun x2' M0' => rec_ (x2', M0')) (fun x2' M0' => hrec (x2', M0')) u.1 u.2) tp_N (x2, M0)
def f_X11_divides (a0 : Int) (M0 : tp_M) : Option (Int × tp_M) :=
  f_X11_divides_2 a0 0 M0
set_option maxHeartbeats 4000000 in
set_option maxRecDepth 100000 in
theorem T_X11_divides (G : tp_G) (a0 : Int) (M0 : tp_M) : tp_J i_X11_divides (tp_rm 1) G 0 0 o_X11_divides tp_NC (tp_st M0) 0 0 [some (.inr (.inr 483)), some (.inl a0), none, none] 0 [] (f_X11_divides a0 M0) := by
  unfold f_X11_divides
  refine j_iconst ⟨by decide, by decide⟩ d_X11_divides_0 ?_
  refine j_istore_n (lv' := [some (.inr (.inr 483)), some (.inl a0), some (.inl 0), none]) rfl d_X11_divides_1 (Nat.le_of_ble_eq_true rfl) rfl ?_
  exact j_wk [true, true, true, false] rfl rfl (T_X11_divides_2 G a0 0 M0)
set_option maxHeartbeats 4000000 in
set_option maxRecDepth 100000 in
theorem c_X11_divides (G : tp_G) (a0 : Int) (M0 : tp_M) (r : Int × tp_M) (h : f_X11_divides a0 M0 = some r) (l : Launch) : Met l y_X11_divides (tp_ws y_X11_divides i_X11_divides) (tp_rm 1) (tp_Pc G [.inr (.inr 483), .inl a0] tp_NC (tp_st M0)) (tp_Q G (o_X11_divides r)) 0 0 (tp_A G) :=
  tp_met (I := i_X11_divides) (y := y_X11_divides) (by decide +kernel) (Eq.refl "TypesAtPrimeModel") (Eq.refl "divides") (lv := [some (.inr (.inr 483)), some (.inl a0), none, none]) rfl (Nat.le_of_ble_eq_true rfl) (T_X11_divides G a0 M0) h l
def y_X11_laysTrial : MethodName := ⟨"TypesAtPrimeModel", "laysTrial", "(II)V"⟩
abbrev i_X11_laysTrial : tp_I := (prog_13_method_35_code, "TypesAtPrimeModel", none, 5, "laysTrial")
abbrev o_X11_laysTrial : tp_M → tp_O := fun r => (none, tp_NC, tp_st r)
theorem d_X11_laysTrial_0 : decode prog_13_method_35_code 0 = .ok (.iload_n 1, 1) := by decide +kernel
theorem d_X11_laysTrial_1 : decode prog_13_method_35_code 1 = .ok (.istore_n 3, 1) := by decide +kernel
theorem d_X11_laysTrial_2 : decode prog_13_method_35_code 2 = .ok (.iconst 0, 1) := by decide +kernel
theorem d_X11_laysTrial_3 : decode prog_13_method_35_code 3 = .ok (.istore 4, 2) := by decide +kernel
theorem d_X11_laysTrial_5 : decode prog_13_method_35_code 5 = .ok (.iload 4, 2) := by decide +kernel
theorem d_X11_laysTrial_7 : decode prog_13_method_35_code 7 = .ok (.bipush 9, 2) := by decide +kernel
theorem d_X11_laysTrial_9 : decode prog_13_method_35_code 9 = .ok (.if_icmp .ge 49, 3) := by decide +kernel
theorem d_X11_laysTrial_12 : decode prog_13_method_35_code 12 = .ok (.aload_n 0, 1) := by decide +kernel
theorem d_X11_laysTrial_13 : decode prog_13_method_35_code 13 = .ok (.getfield 38, 3) := by decide +kernel
theorem d_X11_laysTrial_16 : decode prog_13_method_35_code 16 = .ok (.iload 4, 2) := by decide +kernel
theorem d_X11_laysTrial_18 : decode prog_13_method_35_code 18 = .ok (.iload 4, 2) := by decide +kernel
theorem d_X11_laysTrial_20 : decode prog_13_method_35_code 20 = .ok (.iload_n 2, 1) := by decide +kernel
theorem d_X11_laysTrial_21 : decode prog_13_method_35_code 21 = .ok (.if_icmp .ge 12, 3) := by decide +kernel
theorem d_X11_laysTrial_24 : decode prog_13_method_35_code 24 = .ok (.iload_n 3, 1) := by decide +kernel
theorem d_X11_laysTrial_25 : decode prog_13_method_35_code 25 = .ok (.aload_n 0, 1) := by decide +kernel
theorem d_X11_laysTrial_26 : decode prog_13_method_35_code 26 = .ok (.getfield 168, 3) := by decide +kernel
theorem d_X11_laysTrial_29 : decode prog_13_method_35_code 29 = .ok (.irem, 1) := by decide +kernel
theorem d_X11_laysTrial_30 : decode prog_13_method_35_code 30 = .ok (.goto 14, 3) := by decide +kernel
theorem d_X11_laysTrial_33 : decode prog_13_method_35_code 33 = .ok (.iload 4, 2) := by decide +kernel
theorem d_X11_laysTrial_35 : decode prog_13_method_35_code 35 = .ok (.iload_n 2, 1) := by decide +kernel
theorem d_X11_laysTrial_36 : decode prog_13_method_35_code 36 = .ok (.if_icmp .ne 7, 3) := by decide +kernel
theorem d_X11_laysTrial_39 : decode prog_13_method_35_code 39 = .ok (.iconst 1, 1) := by decide +kernel
theorem d_X11_laysTrial_40 : decode prog_13_method_35_code 40 = .ok (.goto 4, 3) := by decide +kernel
theorem d_X11_laysTrial_43 : decode prog_13_method_35_code 43 = .ok (.iconst 0, 1) := by decide +kernel
theorem d_X11_laysTrial_44 : decode prog_13_method_35_code 44 = .ok (.iastore, 1) := by decide +kernel
theorem d_X11_laysTrial_45 : decode prog_13_method_35_code 45 = .ok (.iload_n 3, 1) := by decide +kernel
theorem d_X11_laysTrial_46 : decode prog_13_method_35_code 46 = .ok (.aload_n 0, 1) := by decide +kernel
theorem d_X11_laysTrial_47 : decode prog_13_method_35_code 47 = .ok (.getfield 168, 3) := by decide +kernel
theorem d_X11_laysTrial_50 : decode prog_13_method_35_code 50 = .ok (.idiv, 1) := by decide +kernel
theorem d_X11_laysTrial_51 : decode prog_13_method_35_code 51 = .ok (.istore_n 3, 1) := by decide +kernel
theorem d_X11_laysTrial_52 : decode prog_13_method_35_code 52 = .ok (.iinc 4 1, 3) := by decide +kernel
theorem d_X11_laysTrial_55 : decode prog_13_method_35_code 55 = .ok (.goto (-50), 3) := by decide +kernel
theorem d_X11_laysTrial_58 : decode prog_13_method_35_code 58 = .ok (.return_, 1) := by decide +kernel
def f_X11_laysTrial_44 (rec_5 : Int → Int → tp_M → Option (tp_M)) (x2 : Int) (x3 : Int) (x4 : Int) (s0 : Int) (s1 : Int) (M0 : tp_M) : Option (tp_M) :=
  if 0 ≤ s1 ∧ s1 < 9 then
    tp_mp (tp_up M0 493 s1 s0) fun M4 =>
    if (M4 483 0) = 0 then none else
      tp_lt ((tp_w (Int.tdiv x3 (M4 483 0)))) fun y5 =>
      tp_lt (tp_w (x4 + 1)) fun y6 =>
      rec_5 y5 y6 M4 else none
set_option maxHeartbeats 4000000 in
set_option maxRecDepth 100000 in
theorem T_X11_laysTrial_44 (G : tp_G) (rec_5 : Int → Int → tp_M → Option (tp_M)) (x2 : Int) (x3 : Int) (x4 : Int) (s0 : Int) (s1 : Int) (M0 : tp_M) (hrec_5 : ∀ (x3' x4' : Int) (M' : tp_M), tp_J i_X11_laysTrial (tp_rm 0) G 0 0 o_X11_laysTrial tp_NC (tp_st M') 0 0 [some (.inr (.inr 483)), none, some (.inl x2), some (.inl (x3')), some (.inl (x4'))] 5 [] (rec_5 x3' x4' M')) : tp_J i_X11_laysTrial (tp_rm 0) G 0 0 o_X11_laysTrial tp_NC (tp_st M0) 0 0 [some (.inr (.inr 483)), none, some (.inl x2), some (.inl x3), some (.inl x4)] 44 [.inl s0, .inl s1, .inr (.inr 493)] (f_X11_laysTrial_44 rec_5 x2 x3 x4 s0 s1 M0) := by
  unfold f_X11_laysTrial_44
  refine j_iast tg_493 al_493 d_X11_laysTrial_44 (fun M4 hM4 => ?_)
  refine j_iload_n rfl d_X11_laysTrial_45 rfl ?_
  refine j_aload_n rfl d_X11_laysTrial_46 rfl ?_
  refine j_geti fl_Model_168 tg_483 d_X11_laysTrial_47 ?_
  refine j_idiv d_X11_laysTrial_50 ?_
  refine j_nmI (fun y5 hy5 => ?_)
  refine j_istore_n (lv' := [some (.inr (.inr 483)), none, some (.inl x2), some (.inl y5), some (.inl x4)]) rfl d_X11_laysTrial_51 (Nat.le_of_ble_eq_true rfl) rfl ?_
  refine j_iincN (lv' := fun y6 => [some (.inr (.inr 483)), none, some (.inl x2), some (.inl y5), some (.inl y6)]) d_X11_laysTrial_52 rfl (Nat.le_of_ble_eq_true rfl) (fun _ => rfl) (fun y6 hy6 => ?_)
  refine j_goto (tgt := 5) d_X11_laysTrial_55 (by decide) ?_
  exact j_wk [true, false, true, true, true] rfl rfl (hrec_5 y5 y6 M4)
def f_X11_laysTrial_5B (x2 : Int) (rec_5 : Int → Int → tp_M → Option (tp_M)) (x3 : Int) (x4 : Int) (M0 : tp_M) : Option (tp_M) :=
  if 9 ≤ x4 then
    some M0
  else
    if x2 ≤ x4 then
      if ¬ x4 = x2 then
        f_X11_laysTrial_44 rec_5 x2 x3 x4 0 x4 M0
      else
        f_X11_laysTrial_44 rec_5 x2 x3 x4 1 x4 M0
    else
      if (M0 483 0) = 0 then none else
        f_X11_laysTrial_44 rec_5 x2 x3 x4 (Int.tmod x3 (M0 483 0)) x4 M0
set_option maxHeartbeats 4000000 in
set_option maxRecDepth 100000 in
theorem T_X11_laysTrial_5B (G : tp_G) (x2 : Int) (rec_5 : Int → Int → tp_M → Option (tp_M)) (hrec_5 : ∀ (x3' x4' : Int) (M' : tp_M), tp_J i_X11_laysTrial (tp_rm 0) G 0 0 o_X11_laysTrial tp_NC (tp_st M') 0 0 [some (.inr (.inr 483)), none, some (.inl x2), some (.inl (x3')), some (.inl (x4'))] 5 [] (rec_5 x3' x4' M')) (x3 : Int) (x4 : Int) (M0 : tp_M) : tp_J i_X11_laysTrial (tp_rm 0) G 0 0 o_X11_laysTrial tp_NC (tp_st M0) 0 0 [some (.inr (.inr 483)), none, some (.inl x2), some (.inl x3), some (.inl x4)] 5 [] (f_X11_laysTrial_5B x2 rec_5 x3 x4 M0) := by
  unfold f_X11_laysTrial_5B
  refine j_iload d_X11_laysTrial_5 rfl ?_
  refine j_bipush ⟨by decide, by decide⟩ (by decide +kernel) d_X11_laysTrial_7 ?_
  refine j_icmp_ge (tgt := 58) d_X11_laysTrial_9 (by decide) (fun h1 => ?_) (fun h1 => ?_)
  · exact j_vret d_X11_laysTrial_58 rfl rfl ⟨rfl, rfl⟩
  · refine j_aload_n rfl d_X11_laysTrial_12 rfl ?_
    refine j_getr fl_Model_38 tg_483 rv_483_16 d_X11_laysTrial_13 ?_
    refine j_iload d_X11_laysTrial_16 rfl ?_
    refine j_iload d_X11_laysTrial_18 rfl ?_
    refine j_iload_n rfl d_X11_laysTrial_20 rfl ?_
    refine j_icmp_ge (tgt := 33) d_X11_laysTrial_21 (by decide) (fun h2 => ?_) (fun h2 => ?_)
    · refine j_iload d_X11_laysTrial_33 rfl ?_
      refine j_iload_n rfl d_X11_laysTrial_35 rfl ?_
      refine j_icmp_ne (tgt := 43) d_X11_laysTrial_36 (by decide) (fun h3 => ?_) (fun h3 => ?_)
      · refine j_iconst ⟨by decide, by decide⟩ d_X11_laysTrial_43 ?_
        exact j_wk [true, false, true, true, true] rfl rfl (T_X11_laysTrial_44 G rec_5 x2 x3 x4 0 x4 M0 hrec_5)
      · refine j_iconst ⟨by decide, by decide⟩ d_X11_laysTrial_39 ?_
        refine j_goto (tgt := 44) d_X11_laysTrial_40 (by decide) ?_
        exact j_wk [true, false, true, true, true] rfl rfl (T_X11_laysTrial_44 G rec_5 x2 x3 x4 1 x4 M0 hrec_5)
    · refine j_iload_n rfl d_X11_laysTrial_24 rfl ?_
      refine j_aload_n rfl d_X11_laysTrial_25 rfl ?_
      refine j_geti fl_Model_168 tg_483 d_X11_laysTrial_26 ?_
      refine j_irem d_X11_laysTrial_29 ?_
      refine j_goto (tgt := 44) d_X11_laysTrial_30 (by decide) ?_
      exact j_wk [true, false, true, true, true] rfl rfl (T_X11_laysTrial_44 G rec_5 x2 x3 x4 (Int.tmod x3 (M0 483 0)) x4 M0 hrec_5)
def f_X11_laysTrial_5 (x2 : Int) (x3 : Int) (x4 : Int) (M0 : tp_M) : Option (tp_M) := tp_lp (σ := Int × Int × tp_M) (fun rec_ u => f_X11_laysTrial_5B x2 (fun x3' x4' M0' => rec_ (x3', x4', M0')) u.1 u.2.1 u.2.2) tp_N (x3, x4, M0)
set_option maxHeartbeats 4000000 in
set_option maxRecDepth 100000 in
theorem T_X11_laysTrial_5 (G : tp_G) (x2 : Int) (x3 : Int) (x4 : Int) (M0 : tp_M) : tp_J i_X11_laysTrial (tp_rm 0) G 0 0 o_X11_laysTrial tp_NC (tp_st M0) 0 0 [some (.inr (.inr 483)), none, some (.inl x2), some (.inl x3), some (.inl x4)] 5 [] (f_X11_laysTrial_5 x2 x3 x4 M0) := by
  unfold f_X11_laysTrial_5
  exact j_lp (σ := Int × Int × tp_M) (n' := fun _ => tp_NC) (g' := fun u => tp_st u.2.2) (k' := fun _ => 0) (q' := fun _ => 0) (lv' := fun u => [some (.inr (.inr 483)), none, some (.inl x2), some (.inl u.1), some (.inl u.2.1)]) (fun rec_ hrec u => T_X11_laysTrial_5B G x2 (fun x3' x4' M0' => rec_ (x3', x4', M0')) (fun x3' x4' M0' => hrec (x3', x4', M0')) u.1 u.2.1 u.2.2) tp_N (x3, x4, M0)
def f_X11_laysTrial (a0 : Int) (a1 : Int) (M0 : tp_M) : Option (tp_M) :=
  f_X11_laysTrial_5 a1 a0 0 M0
set_option maxHeartbeats 4000000 in
set_option maxRecDepth 100000 in
theorem T_X11_laysTrial (G : tp_G) (a0 : Int) (a1 : Int) (M0 : tp_M) : tp_J i_X11_laysTrial (tp_rm 0) G 0 0 o_X11_laysTrial tp_NC (tp_st M0) 0 0 [some (.inr (.inr 483)), some (.inl a0), some (.inl a1), none, none] 0 [] (f_X11_laysTrial a0 a1 M0) := by
  unfold f_X11_laysTrial
  refine j_iload_n rfl d_X11_laysTrial_0 rfl ?_
  refine j_istore_n (lv' := [some (.inr (.inr 483)), some (.inl a0), some (.inl a1), some (.inl a0), none]) rfl d_X11_laysTrial_1 (Nat.le_of_ble_eq_true rfl) rfl ?_
  refine j_iconst ⟨by decide, by decide⟩ d_X11_laysTrial_2 ?_
  refine j_istore (lv' := [some (.inr (.inr 483)), some (.inl a0), some (.inl a1), some (.inl a0), some (.inl 0)]) d_X11_laysTrial_3 (Nat.le_of_ble_eq_true rfl) rfl ?_
  exact j_wk [true, false, true, true, true] rfl rfl (T_X11_laysTrial_5 G a1 a0 0 M0)
set_option maxHeartbeats 4000000 in
set_option maxRecDepth 100000 in
theorem c_X11_laysTrial (G : tp_G) (a0 : Int) (a1 : Int) (M0 : tp_M) (r : tp_M) (h : f_X11_laysTrial a0 a1 M0 = some r) (l : Launch) : Met l y_X11_laysTrial (tp_ws y_X11_laysTrial i_X11_laysTrial) (tp_rm 0) (tp_Pc G [.inr (.inr 483), .inl a0, .inl a1] tp_NC (tp_st M0)) (tp_Q G (o_X11_laysTrial r)) 0 0 (tp_A G) :=
  tp_met (I := i_X11_laysTrial) (y := y_X11_laysTrial) (by decide +kernel) (Eq.refl "TypesAtPrimeModel") (Eq.refl "laysTrial") (lv := [some (.inr (.inr 483)), some (.inl a0), some (.inl a1), none, none]) rfl (Nat.le_of_ble_eq_true rfl) (T_X11_laysTrial G a0 a1 M0) h l
theorem wd_1041 : (.fieldLink "TypesAtPrimeModel" 29 "TypesAtPrimeModel" "factorDegree" "[I" : Cond) ∈ lw_tbl := List.mem_append_right _ (List.mem_of_getElem? (i := 1041) (by decide +kernel))
theorem fl_Model_29 : tp_F "TypesAtPrimeModel" 29 11 13 2 := ⟨_, _, _, rfl, by decide, rfl, wd_1041, rfl, by decide⟩
theorem tg_490 : tp_tg 490 = 21 := by decide +kernel
theorem al_490 : tp_al 490 = 9 := by decide +kernel
theorem rv_483_13 : tp_rv 483 13 = 490 := by decide +kernel
theorem wd_1040 : (.fieldLink "TypesAtPrimeModel" 272 "TypesAtPrimeModel" "factors" "I" : Cond) ∈ lw_tbl := List.mem_append_right _ (List.mem_of_getElem? (i := 1040) (by decide +kernel))
theorem fl_Model_272 : tp_F "TypesAtPrimeModel" 272 11 12 0 := ⟨_, _, _, rfl, by decide, rfl, wd_1040, rfl, by decide⟩
theorem wd_1042 : (.fieldLink "TypesAtPrimeModel" 32 "TypesAtPrimeModel" "factorTimes" "[I" : Cond) ∈ lw_tbl := List.mem_append_right _ (List.mem_of_getElem? (i := 1042) (by decide +kernel))
theorem fl_Model_32 : tp_F "TypesAtPrimeModel" 32 11 14 2 := ⟨_, _, _, rfl, by decide, rfl, wd_1042, rfl, by decide⟩
theorem tg_491 : tp_tg 491 = 21 := by decide +kernel
theorem al_491 : tp_al 491 = 9 := by decide +kernel
theorem rv_483_14 : tp_rv 483 14 = 491 := by decide +kernel
theorem pf_11_12 (v : Int) : ∀ (C : String) (T : u_T) (N : Nat), vwCl[11]? = some (C, T, N) → (T 12).2.2.2 = false ∧ ∀ G : tp_G, ∃ ty, parseFieldDescriptor (T 12).2.2.1 = some ty ∧ narrow ty (tp_enc G (tp_zv 0 v)) = tp_enc G (tp_zv 0 v) ∧ fits ty (tp_enc G (tp_zv 0 v)) = true := by
  intro C T N h
  cases h
  exact ⟨rfl, fun G => ⟨_, tyX11_ok 12 (by decide), rfl, rfl⟩⟩
theorem wd_1043 : (.fieldLink "TypesAtPrimeModel" 35 "TypesAtPrimeModel" "factorAt" "[I" : Cond) ∈ lw_tbl := List.mem_append_right _ (List.mem_of_getElem? (i := 1043) (by decide +kernel))
theorem fl_Model_35 : tp_F "TypesAtPrimeModel" 35 11 15 2 := ⟨_, _, _, rfl, by decide, rfl, wd_1043, rfl, by decide⟩
theorem tg_492 : tp_tg 492 = 21 := by decide +kernel
theorem al_492 : tp_al 492 = 81 := by decide +kernel
theorem rv_483_15 : tp_rv 483 15 = 492 := by decide +kernel
def y_X11_addsFactor : MethodName := ⟨"TypesAtPrimeModel", "addsFactor", "(II)V"⟩
abbrev i_X11_addsFactor : tp_I := (prog_13_method_36_code, "TypesAtPrimeModel", none, 4, "addsFactor")
abbrev o_X11_addsFactor : tp_M → tp_O := fun r => (none, tp_NC, tp_st r)
theorem d_X11_addsFactor_0 : decode prog_13_method_36_code 0 = .ok (.aload_n 0, 1) := by decide +kernel
theorem d_X11_addsFactor_1 : decode prog_13_method_36_code 1 = .ok (.getfield 29, 3) := by decide +kernel
theorem d_X11_addsFactor_4 : decode prog_13_method_36_code 4 = .ok (.aload_n 0, 1) := by decide +kernel
theorem d_X11_addsFactor_5 : decode prog_13_method_36_code 5 = .ok (.getfield 272, 3) := by decide +kernel
theorem d_X11_addsFactor_8 : decode prog_13_method_36_code 8 = .ok (.iload_n 1, 1) := by decide +kernel
theorem d_X11_addsFactor_9 : decode prog_13_method_36_code 9 = .ok (.iastore, 1) := by decide +kernel
theorem d_X11_addsFactor_10 : decode prog_13_method_36_code 10 = .ok (.aload_n 0, 1) := by decide +kernel
theorem d_X11_addsFactor_11 : decode prog_13_method_36_code 11 = .ok (.getfield 32, 3) := by decide +kernel
theorem d_X11_addsFactor_14 : decode prog_13_method_36_code 14 = .ok (.aload_n 0, 1) := by decide +kernel
theorem d_X11_addsFactor_15 : decode prog_13_method_36_code 15 = .ok (.getfield 272, 3) := by decide +kernel
theorem d_X11_addsFactor_18 : decode prog_13_method_36_code 18 = .ok (.iload_n 2, 1) := by decide +kernel
theorem d_X11_addsFactor_19 : decode prog_13_method_36_code 19 = .ok (.iastore, 1) := by decide +kernel
theorem d_X11_addsFactor_20 : decode prog_13_method_36_code 20 = .ok (.iconst 0, 1) := by decide +kernel
theorem d_X11_addsFactor_21 : decode prog_13_method_36_code 21 = .ok (.istore_n 3, 1) := by decide +kernel
theorem d_X11_addsFactor_22 : decode prog_13_method_36_code 22 = .ok (.iload_n 3, 1) := by decide +kernel
theorem d_X11_addsFactor_23 : decode prog_13_method_36_code 23 = .ok (.bipush 9, 2) := by decide +kernel
theorem d_X11_addsFactor_25 : decode prog_13_method_36_code 25 = .ok (.if_icmp .ge 29, 3) := by decide +kernel
theorem d_X11_addsFactor_28 : decode prog_13_method_36_code 28 = .ok (.aload_n 0, 1) := by decide +kernel
theorem d_X11_addsFactor_29 : decode prog_13_method_36_code 29 = .ok (.getfield 35, 3) := by decide +kernel
theorem d_X11_addsFactor_32 : decode prog_13_method_36_code 32 = .ok (.bipush 9, 2) := by decide +kernel
theorem d_X11_addsFactor_34 : decode prog_13_method_36_code 34 = .ok (.aload_n 0, 1) := by decide +kernel
theorem d_X11_addsFactor_35 : decode prog_13_method_36_code 35 = .ok (.getfield 272, 3) := by decide +kernel
theorem d_X11_addsFactor_38 : decode prog_13_method_36_code 38 = .ok (.imul, 1) := by decide +kernel
theorem d_X11_addsFactor_39 : decode prog_13_method_36_code 39 = .ok (.iload_n 3, 1) := by decide +kernel
theorem d_X11_addsFactor_40 : decode prog_13_method_36_code 40 = .ok (.iadd, 1) := by decide +kernel
theorem d_X11_addsFactor_41 : decode prog_13_method_36_code 41 = .ok (.aload_n 0, 1) := by decide +kernel
theorem d_X11_addsFactor_42 : decode prog_13_method_36_code 42 = .ok (.getfield 38, 3) := by decide +kernel
theorem d_X11_addsFactor_45 : decode prog_13_method_36_code 45 = .ok (.iload_n 3, 1) := by decide +kernel
theorem d_X11_addsFactor_46 : decode prog_13_method_36_code 46 = .ok (.iaload, 1) := by decide +kernel
theorem d_X11_addsFactor_47 : decode prog_13_method_36_code 47 = .ok (.iastore, 1) := by decide +kernel
theorem d_X11_addsFactor_48 : decode prog_13_method_36_code 48 = .ok (.iinc 3 1, 3) := by decide +kernel
theorem d_X11_addsFactor_51 : decode prog_13_method_36_code 51 = .ok (.goto (-29), 3) := by decide +kernel
theorem d_X11_addsFactor_54 : decode prog_13_method_36_code 54 = .ok (.aload_n 0, 1) := by decide +kernel
theorem d_X11_addsFactor_55 : decode prog_13_method_36_code 55 = .ok (.dup, 1) := by decide +kernel
theorem d_X11_addsFactor_56 : decode prog_13_method_36_code 56 = .ok (.getfield 272, 3) := by decide +kernel
theorem d_X11_addsFactor_59 : decode prog_13_method_36_code 59 = .ok (.iconst 1, 1) := by decide +kernel
theorem d_X11_addsFactor_60 : decode prog_13_method_36_code 60 = .ok (.iadd, 1) := by decide +kernel
theorem d_X11_addsFactor_61 : decode prog_13_method_36_code 61 = .ok (.putfield 272, 3) := by decide +kernel
theorem d_X11_addsFactor_64 : decode prog_13_method_36_code 64 = .ok (.return_, 1) := by decide +kernel
def f_X11_addsFactor_22B (rec_22 : Int → tp_M → Option (tp_M)) (x3 : Int) (M0 : tp_M) : Option (tp_M) :=
  if 9 ≤ x3 then
    tp_mp (tp_up M0 483 12 (tp_w ((M0 483 12) + 1))) fun M4 =>
    some M4
  else
    if 0 ≤ x3 ∧ x3 < 9 then
      if 0 ≤ (tp_w ((tp_w (9 * (M0 483 12))) + x3)) ∧ (tp_w ((tp_w (9 * (M0 483 12))) + x3)) < 81 then
        tp_mp (tp_up M0 492 (tp_w ((tp_w (9 * (M0 483 12))) + x3)) (M0 493 x3)) fun M5 =>
        tp_lt (tp_w (x3 + 1)) fun y6 =>
        rec_22 y6 M5 else none else none
set_option maxHeartbeats 4000000 in
set_option maxRecDepth 100000 in
theorem T_X11_addsFactor_22B (G : tp_G) (rec_22 : Int → tp_M → Option (tp_M)) (hrec_22 : ∀ (x3' : Int) (M' : tp_M), tp_J i_X11_addsFactor (tp_rm 0) G 0 0 o_X11_addsFactor tp_NC (tp_st M') 0 0 [some (.inr (.inr 483)), none, none, some (.inl (x3'))] 22 [] (rec_22 x3' M')) (x3 : Int) (M0 : tp_M) : tp_J i_X11_addsFactor (tp_rm 0) G 0 0 o_X11_addsFactor tp_NC (tp_st M0) 0 0 [some (.inr (.inr 483)), none, none, some (.inl x3)] 22 [] (f_X11_addsFactor_22B rec_22 x3 M0) := by
  unfold f_X11_addsFactor_22B
  refine j_iload_n rfl d_X11_addsFactor_22 rfl ?_
  refine j_bipush ⟨by decide, by decide⟩ (by decide +kernel) d_X11_addsFactor_23 ?_
  refine j_icmp_ge (tgt := 54) d_X11_addsFactor_25 (by decide) (fun h3 => ?_) (fun h3 => ?_)
  · refine j_aload_n rfl d_X11_addsFactor_54 rfl ?_
    refine j_dup d_X11_addsFactor_55 (fun G => tp_cat G _) ?_
    refine j_geti fl_Model_272 tg_483 d_X11_addsFactor_56 ?_
    refine j_iconst ⟨by decide, by decide⟩ d_X11_addsFactor_59 ?_
    refine j_iadd d_X11_addsFactor_60 ?_
    refine j_put (z := 0) (v := (tp_w ((M0 483 12) + 1))) fl_Model_272 (by decide) tg_483 (pf_11_12 _) pt_11 d_X11_addsFactor_61 (fun M4 hM4 => ?_)
    exact j_vret d_X11_addsFactor_64 rfl rfl ⟨rfl, rfl⟩
  · refine j_aload_n rfl d_X11_addsFactor_28 rfl ?_
    refine j_getr fl_Model_35 tg_483 rv_483_15 d_X11_addsFactor_29 ?_
    refine j_bipush ⟨by decide, by decide⟩ (by decide +kernel) d_X11_addsFactor_32 ?_
    refine j_aload_n rfl d_X11_addsFactor_34 rfl ?_
    refine j_geti fl_Model_272 tg_483 d_X11_addsFactor_35 ?_
    refine j_imul d_X11_addsFactor_38 ?_
    refine j_iload_n rfl d_X11_addsFactor_39 rfl ?_
    refine j_iadd d_X11_addsFactor_40 ?_
    refine j_aload_n rfl d_X11_addsFactor_41 rfl ?_
    refine j_getr fl_Model_38 tg_483 rv_483_16 d_X11_addsFactor_42 ?_
    refine j_iload_n rfl d_X11_addsFactor_45 rfl ?_
    refine j_iald tg_493 al_493 d_X11_addsFactor_46 ?_
    refine j_iast tg_492 al_492 d_X11_addsFactor_47 (fun M5 hM5 => ?_)
    refine j_iincN (lv' := fun y6 => [some (.inr (.inr 483)), none, none, some (.inl y6)]) d_X11_addsFactor_48 rfl (Nat.le_of_ble_eq_true rfl) (fun _ => rfl) (fun y6 hy6 => ?_)
    refine j_goto (tgt := 22) d_X11_addsFactor_51 (by decide) ?_
    exact j_wk [true, false, false, true] rfl rfl (hrec_22 y6 M5)
def f_X11_addsFactor_22 (x3 : Int) (M0 : tp_M) : Option (tp_M) := tp_lp (σ := Int × tp_M) (fun rec_ u => f_X11_addsFactor_22B (fun x3' M0' => rec_ (x3', M0')) u.1 u.2) tp_N (x3, M0)
set_option maxHeartbeats 4000000 in
set_option maxRecDepth 100000 in
theorem T_X11_addsFactor_22 (G : tp_G) (x3 : Int) (M0 : tp_M) : tp_J i_X11_addsFactor (tp_rm 0) G 0 0 o_X11_addsFactor tp_NC (tp_st M0) 0 0 [some (.inr (.inr 483)), none, none, some (.inl x3)] 22 [] (f_X11_addsFactor_22 x3 M0) := by
  unfold f_X11_addsFactor_22
  exact j_lp (σ := Int × tp_M) (n' := fun _ => tp_NC) (g' := fun u => tp_st u.2) (k' := fun _ => 0) (q' := fun _ => 0) (lv' := fun u => [some (.inr (.inr 483)), none, none, some (.inl u.1)]) (fun rec_ hrec u => T_X11_addsFactor_22B G (fun x3' M0' => rec_ (x3', M0')) (fun x3' M0' => hrec (x3', M0')) u.1 u.2) tp_N (x3, M0)
def f_X11_addsFactor (a0 : Int) (a1 : Int) (M0 : tp_M) : Option (tp_M) :=
  if 0 ≤ (M0 483 12) ∧ (M0 483 12) < 9 then
    tp_mp (tp_up M0 490 (M0 483 12) a0) fun M1 =>
    if 0 ≤ (M1 483 12) ∧ (M1 483 12) < 9 then
      tp_mp (tp_up M1 491 (M1 483 12) a1) fun M2 =>
      f_X11_addsFactor_22 0 M2 else none else none
set_option maxHeartbeats 4000000 in
set_option maxRecDepth 100000 in
theorem T_X11_addsFactor (G : tp_G) (a0 : Int) (a1 : Int) (M0 : tp_M) : tp_J i_X11_addsFactor (tp_rm 0) G 0 0 o_X11_addsFactor tp_NC (tp_st M0) 0 0 [some (.inr (.inr 483)), some (.inl a0), some (.inl a1), none] 0 [] (f_X11_addsFactor a0 a1 M0) := by
  unfold f_X11_addsFactor
  refine j_aload_n rfl d_X11_addsFactor_0 rfl ?_
  refine j_getr fl_Model_29 tg_483 rv_483_13 d_X11_addsFactor_1 ?_
  refine j_aload_n rfl d_X11_addsFactor_4 rfl ?_
  refine j_geti fl_Model_272 tg_483 d_X11_addsFactor_5 ?_
  refine j_iload_n rfl d_X11_addsFactor_8 rfl ?_
  refine j_iast tg_490 al_490 d_X11_addsFactor_9 (fun M1 hM1 => ?_)
  refine j_aload_n rfl d_X11_addsFactor_10 rfl ?_
  refine j_getr fl_Model_32 tg_483 rv_483_14 d_X11_addsFactor_11 ?_
  refine j_aload_n rfl d_X11_addsFactor_14 rfl ?_
  refine j_geti fl_Model_272 tg_483 d_X11_addsFactor_15 ?_
  refine j_iload_n rfl d_X11_addsFactor_18 rfl ?_
  refine j_iast tg_491 al_491 d_X11_addsFactor_19 (fun M2 hM2 => ?_)
  refine j_iconst ⟨by decide, by decide⟩ d_X11_addsFactor_20 ?_
  refine j_istore_n (lv' := [some (.inr (.inr 483)), some (.inl a0), some (.inl a1), some (.inl 0)]) rfl d_X11_addsFactor_21 (Nat.le_of_ble_eq_true rfl) rfl ?_
  exact j_wk [true, false, false, true] rfl rfl (T_X11_addsFactor_22 G 0 M2)
set_option maxHeartbeats 4000000 in
set_option maxRecDepth 100000 in
theorem c_X11_addsFactor (G : tp_G) (a0 : Int) (a1 : Int) (M0 : tp_M) (r : tp_M) (h : f_X11_addsFactor a0 a1 M0 = some r) (l : Launch) : Met l y_X11_addsFactor (tp_ws y_X11_addsFactor i_X11_addsFactor) (tp_rm 0) (tp_Pc G [.inr (.inr 483), .inl a0, .inl a1] tp_NC (tp_st M0)) (tp_Q G (o_X11_addsFactor r)) 0 0 (tp_A G) :=
  tp_met (I := i_X11_addsFactor) (y := y_X11_addsFactor) (by decide +kernel) (Eq.refl "TypesAtPrimeModel") (Eq.refl "addsFactor") (lv := [some (.inr (.inr 483)), some (.inl a0), some (.inl a1), none]) rfl (Nat.le_of_ble_eq_true rfl) (T_X11_addsFactor G a0 a1 M0) h l
