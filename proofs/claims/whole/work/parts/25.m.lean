def y_X10_mix : MethodName := ⟨"TypesAtPrime", "mix", "(IIIII)I"⟩
abbrev i_X10_mix : tp_I := (prog_1_method_9_code, "TypesAtPrime", (some .int), 7, "mix")
abbrev o_X10_mix : Int × tp_M → tp_O := fun r => (some (.inl r.1), tp_NC, tp_st r.2)
theorem d_X10_mix_0 : decode prog_1_method_9_code 0 = .ok (.iload_n 1, 1) := by decide +kernel
theorem d_X10_mix_1 : decode prog_1_method_9_code 1 = .ok (.invokestatic 89, 3) := by decide +kernel
theorem d_X10_mix_4 : decode prog_1_method_9_code 4 = .ok (.ifCond .eq 18, 3) := by decide +kernel
theorem d_X10_mix_7 : decode prog_1_method_9_code 7 = .ok (.iload_n 3, 1) := by decide +kernel
theorem d_X10_mix_8 : decode prog_1_method_9_code 8 = .ok (.invokestatic 89, 3) := by decide +kernel
theorem d_X10_mix_11 : decode prog_1_method_9_code 11 = .ok (.ifCond .eq 11, 3) := by decide +kernel
theorem d_X10_mix_14 : decode prog_1_method_9_code 14 = .ok (.iload 5, 2) := by decide +kernel
theorem d_X10_mix_16 : decode prog_1_method_9_code 16 = .ok (.invokestatic 89, 3) := by decide +kernel
theorem d_X10_mix_19 : decode prog_1_method_9_code 19 = .ok (.ifCond .ne 5, 3) := by decide +kernel
theorem d_X10_mix_22 : decode prog_1_method_9_code 22 = .ok (.iconst (-1), 1) := by decide +kernel
theorem d_X10_mix_23 : decode prog_1_method_9_code 23 = .ok (.ireturn, 1) := by decide +kernel
theorem d_X10_mix_24 : decode prog_1_method_9_code 24 = .ok (.iconst 0, 1) := by decide +kernel
theorem d_X10_mix_25 : decode prog_1_method_9_code 25 = .ok (.istore 6, 2) := by decide +kernel
theorem d_X10_mix_27 : decode prog_1_method_9_code 27 = .ok (.iload 6, 2) := by decide +kernel
theorem d_X10_mix_29 : decode prog_1_method_9_code 29 = .ok (.bipush 9, 2) := by decide +kernel
theorem d_X10_mix_31 : decode prog_1_method_9_code 31 = .ok (.if_icmp .ge 44, 3) := by decide +kernel
theorem d_X10_mix_34 : decode prog_1_method_9_code 34 = .ok (.aload_n 0, 1) := by decide +kernel
theorem d_X10_mix_35 : decode prog_1_method_9_code 35 = .ok (.getfield 68, 3) := by decide +kernel
theorem d_X10_mix_38 : decode prog_1_method_9_code 38 = .ok (.iload 6, 2) := by decide +kernel
theorem d_X10_mix_40 : decode prog_1_method_9_code 40 = .ok (.iload_n 2, 1) := by decide +kernel
theorem d_X10_mix_41 : decode prog_1_method_9_code 41 = .ok (.i2l, 1) := by decide +kernel
theorem d_X10_mix_42 : decode prog_1_method_9_code 42 = .ok (.aload_n 0, 1) := by decide +kernel
theorem d_X10_mix_43 : decode prog_1_method_9_code 43 = .ok (.getfield 24, 3) := by decide +kernel
theorem d_X10_mix_46 : decode prog_1_method_9_code 46 = .ok (.iload_n 1, 1) := by decide +kernel
theorem d_X10_mix_47 : decode prog_1_method_9_code 47 = .ok (.aaload, 1) := by decide +kernel
theorem d_X10_mix_48 : decode prog_1_method_9_code 48 = .ok (.iload 6, 2) := by decide +kernel
theorem d_X10_mix_50 : decode prog_1_method_9_code 50 = .ok (.iaload, 1) := by decide +kernel
theorem d_X10_mix_51 : decode prog_1_method_9_code 51 = .ok (.i2l, 1) := by decide +kernel
theorem d_X10_mix_52 : decode prog_1_method_9_code 52 = .ok (.lmul, 1) := by decide +kernel
theorem d_X10_mix_53 : decode prog_1_method_9_code 53 = .ok (.iload 4, 2) := by decide +kernel
theorem d_X10_mix_55 : decode prog_1_method_9_code 55 = .ok (.i2l, 1) := by decide +kernel
theorem d_X10_mix_56 : decode prog_1_method_9_code 56 = .ok (.aload_n 0, 1) := by decide +kernel
theorem d_X10_mix_57 : decode prog_1_method_9_code 57 = .ok (.getfield 24, 3) := by decide +kernel
theorem d_X10_mix_60 : decode prog_1_method_9_code 60 = .ok (.iload_n 3, 1) := by decide +kernel
theorem d_X10_mix_61 : decode prog_1_method_9_code 61 = .ok (.aaload, 1) := by decide +kernel
theorem d_X10_mix_62 : decode prog_1_method_9_code 62 = .ok (.iload 6, 2) := by decide +kernel
theorem d_X10_mix_64 : decode prog_1_method_9_code 64 = .ok (.iaload, 1) := by decide +kernel
theorem d_X10_mix_65 : decode prog_1_method_9_code 65 = .ok (.i2l, 1) := by decide +kernel
theorem d_X10_mix_66 : decode prog_1_method_9_code 66 = .ok (.lmul, 1) := by decide +kernel
theorem d_X10_mix_67 : decode prog_1_method_9_code 67 = .ok (.ladd, 1) := by decide +kernel
theorem d_X10_mix_68 : decode prog_1_method_9_code 68 = .ok (.lastore, 1) := by decide +kernel
theorem d_X10_mix_69 : decode prog_1_method_9_code 69 = .ok (.iinc 6 1, 3) := by decide +kernel
theorem d_X10_mix_72 : decode prog_1_method_9_code 72 = .ok (.goto (-45), 3) := by decide +kernel
theorem d_X10_mix_75 : decode prog_1_method_9_code 75 = .ok (.aload_n 0, 1) := by decide +kernel
theorem d_X10_mix_76 : decode prog_1_method_9_code 76 = .ok (.iload 5, 2) := by decide +kernel
theorem d_X10_mix_78 : decode prog_1_method_9_code 78 = .ok (.invokevirtual 99, 3) := by decide +kernel
theorem d_X10_mix_81 : decode prog_1_method_9_code 81 = .ok (.ifCond .eq 7, 3) := by decide +kernel
theorem d_X10_mix_84 : decode prog_1_method_9_code 84 = .ok (.iconst 1, 1) := by decide +kernel
theorem d_X10_mix_85 : decode prog_1_method_9_code 85 = .ok (.goto 5, 3) := by decide +kernel
theorem d_X10_mix_88 : decode prog_1_method_9_code 88 = .ok (.bipush (-3), 2) := by decide +kernel
theorem d_X10_mix_90 : decode prog_1_method_9_code 90 = .ok (.ireturn, 1) := by decide +kernel
def f_X10_mix_27B (x1 : Int) (x2 : Int) (x3 : Int) (x4 : Int) (x5 : Int) (rec_27 : Int → tp_M → Option (Int × tp_M)) (x6 : Int) (M0 : tp_M) : Option (Int × tp_M) :=
  if 9 ≤ x6 then
    (f_X10_store x5 M0).bind fun r11 =>
    if r11.1 = 0 then
      some ((-3), r11.2)
    else
      some (1, r11.2)
  else
    if 0 ≤ x1 ∧ x1 < 5 then
      if 0 ≤ x6 ∧ x6 < 9 then
        if 0 ≤ x3 ∧ x3 < 5 then
          if 0 ≤ x6 ∧ x6 < 9 then
            if 0 ≤ x6 ∧ x6 < 18 then
              tp_mp (tp_up M0 481 x6 (tp_wl ((tp_wl (x2 * (M0 (4 + x1) x6))) + (tp_wl (x4 * (M0 (4 + x3) x6)))))) fun M16 =>
              tp_lt (tp_w (x6 + 1)) fun y17 =>
              rec_27 y17 M16 else none else none else none else none else none
set_option maxHeartbeats 4000000 in
set_option maxRecDepth 100000 in
theorem T_X10_mix_27B (G : tp_G) (x1 : Int) (x2 : Int) (x3 : Int) (x4 : Int) (x5 : Int) (rec_27 : Int → tp_M → Option (Int × tp_M)) (hrec_27 : ∀ (x6' : Int) (M' : tp_M), tp_J i_X10_mix (tp_rm 2) G 0 0 o_X10_mix tp_NC (tp_st M') 0 0 [some (.inr (.inr 0)), some (.inl x1), some (.inl x2), some (.inl x3), some (.inl x4), some (.inl x5), some (.inl (x6'))] 27 [] (rec_27 x6' M')) (x6 : Int) (M0 : tp_M) : tp_J i_X10_mix (tp_rm 2) G 0 0 o_X10_mix tp_NC (tp_st M0) 0 0 [some (.inr (.inr 0)), some (.inl x1), some (.inl x2), some (.inl x3), some (.inl x4), some (.inl x5), some (.inl x6)] 27 [] (f_X10_mix_27B x1 x2 x3 x4 x5 rec_27 x6 M0) := by
  unfold f_X10_mix_27B
  refine j_iload d_X10_mix_27 rfl ?_
  refine j_bipush ⟨by decide, by decide⟩ (by decide +kernel) d_X10_mix_29 ?_
  refine j_icmp_ge (tgt := 75) d_X10_mix_31 (by decide) (fun h10 => ?_) (fun h10 => ?_)
  · refine j_aload_n rfl d_X10_mix_75 rfl ?_
    refine j_iload d_X10_mix_76 rfl ?_
    refine j_bind (fun r11 h12 => ?_)
    refine j_callV (y := y_X10_store) (I' := i_X10_store) (avs := [.inl x5]) (c := 0) (st := []) (c_X10_store G x5 M0 r11 h12) cs_Main_99 wd_503 wd_505 ws_4 tg_0 rfl rfl rfl (Nat.le_of_ble_eq_true rfl) ⟨rfl, rfl⟩ ⟨by decide, by decide⟩ ⟨by decide, by decide⟩ d_X10_mix_78 ?_
    refine j_if_eq (tgt := 88) d_X10_mix_81 (by decide) (fun h13 => ?_) (fun h13 => ?_)
    · refine j_bipush ⟨by decide, by decide⟩ (by decide +kernel) d_X10_mix_88 ?_
      exact j_iret d_X10_mix_90 rfl rfl ⟨rfl, rfl⟩
    · refine j_iconst ⟨by decide, by decide⟩ d_X10_mix_84 ?_
      refine j_goto (tgt := 90) d_X10_mix_85 (by decide) ?_
      exact j_iret d_X10_mix_90 rfl rfl ⟨rfl, rfl⟩
  · refine j_aload_n rfl d_X10_mix_34 rfl ?_
    refine j_getr fl_Main_68 tg_0 rv_0_10 d_X10_mix_35 ?_
    refine j_iload d_X10_mix_38 rfl ?_
    refine j_iload_n rfl d_X10_mix_40 rfl ?_
    refine j_i2l d_X10_mix_41 ?_
    refine j_aload_n rfl d_X10_mix_42 rfl ?_
    refine j_getr fl_Main_24 tg_0 rv_0_3 d_X10_mix_43 ?_
    refine j_iload_n rfl d_X10_mix_46 rfl ?_
    refine j_aald (v := (4 + x1)) (ty := (.array .int)) tg_3 (by decide) al_3 (by decide) rfl d_X10_mix_47 (fun h1 h2 => (aa_3 _ h1 h2).1) (fun hi14 => ?_)
    refine j_iload d_X10_mix_48 rfl ?_
    refine j_iald ((aa_3 _ hi14.1 hi14.2).2.1) ((aa_3 _ hi14.1 hi14.2).2.2) d_X10_mix_50 ?_
    refine j_i2l d_X10_mix_51 ?_
    refine j_lmul d_X10_mix_52 ?_
    refine j_iload d_X10_mix_53 rfl ?_
    refine j_i2l d_X10_mix_55 ?_
    refine j_aload_n rfl d_X10_mix_56 rfl ?_
    refine j_getr fl_Main_24 tg_0 rv_0_3 d_X10_mix_57 ?_
    refine j_iload_n rfl d_X10_mix_60 rfl ?_
    refine j_aald (v := (4 + x3)) (ty := (.array .int)) tg_3 (by decide) al_3 (by decide) rfl d_X10_mix_61 (fun h1 h2 => (aa_3 _ h1 h2).1) (fun hi15 => ?_)
    refine j_iload d_X10_mix_62 rfl ?_
    refine j_iald ((aa_3 _ hi15.1 hi15.2).2.1) ((aa_3 _ hi15.1 hi15.2).2.2) d_X10_mix_64 ?_
    refine j_i2l d_X10_mix_65 ?_
    refine j_lmul d_X10_mix_66 ?_
    refine j_ladd d_X10_mix_67 ?_
    refine j_last tg_481 al_481 d_X10_mix_68 (fun M16 hM16 => ?_)
    refine j_iincN (lv' := fun y17 => [some (.inr (.inr 0)), some (.inl x1), some (.inl x2), some (.inl x3), some (.inl x4), some (.inl x5), some (.inl y17)]) d_X10_mix_69 rfl (Nat.le_of_ble_eq_true rfl) (fun _ => rfl) (fun y17 hy17 => ?_)
    refine j_goto (tgt := 27) d_X10_mix_72 (by decide) ?_
    exact j_wk [true, true, true, true, true, true, true] rfl rfl (hrec_27 y17 M16)
def f_X10_mix_27 (x1 : Int) (x2 : Int) (x3 : Int) (x4 : Int) (x5 : Int) (x6 : Int) (M0 : tp_M) : Option (Int × tp_M) := tp_lp (σ := Int × tp_M) (fun rec_ u => f_X10_mix_27B x1 x2 x3 x4 x5 (fun x6' M0' => rec_ (x6', M0')) u.1 u.2) tp_N (x6, M0)
set_option maxHeartbeats 4000000 in
set_option maxRecDepth 100000 in
theorem T_X10_mix_27 (G : tp_G) (x1 : Int) (x2 : Int) (x3 : Int) (x4 : Int) (x5 : Int) (x6 : Int) (M0 : tp_M) : tp_J i_X10_mix (tp_rm 2) G 0 0 o_X10_mix tp_NC (tp_st M0) 0 0 [some (.inr (.inr 0)), some (.inl x1), some (.inl x2), some (.inl x3), some (.inl x4), some (.inl x5), some (.inl x6)] 27 [] (f_X10_mix_27 x1 x2 x3 x4 x5 x6 M0) := by
  unfold f_X10_mix_27
  exact j_lp (σ := Int × tp_M) (n' := fun _ => tp_NC) (g' := fun u => tp_st u.2) (k' := fun _ => 0) (q' := fun _ => 0) (lv' := fun u => [some (.inr (.inr 0)), some (.inl x1), some (.inl x2), some (.inl x3), some (.inl x4), some (.inl x5), some (.inl u.1)]) (fun rec_ hrec u => T_X10_mix_27B G x1 x2 x3 x4 x5 (fun x6' M0' => rec_ (x6', M0')) (fun x6' M0' => hrec (x6', M0')) u.1 u.2) tp_N (x6, M0)
def f_X10_mix (a0 : Int) (a1 : Int) (a2 : Int) (a3 : Int) (a4 : Int) (M0 : tp_M) : Option (Int × tp_M) :=
  (f_X10_isSlot a0 M0).bind fun r1 =>
  if r1 = 0 then
    some ((-1), M0)
  else
    (f_X10_isSlot a2 M0).bind fun r4 =>
    if r4 = 0 then
      some ((-1), M0)
    else
      (f_X10_isSlot a4 M0).bind fun r7 =>
      if ¬ r7 = 0 then
        f_X10_mix_27 a0 a1 a2 a3 a4 0 M0
      else
        some ((-1), M0)
set_option maxHeartbeats 4000000 in
set_option maxRecDepth 100000 in
theorem T_X10_mix (G : tp_G) (a0 : Int) (a1 : Int) (a2 : Int) (a3 : Int) (a4 : Int) (M0 : tp_M) : tp_J i_X10_mix (tp_rm 2) G 0 0 o_X10_mix tp_NC (tp_st M0) 0 0 [some (.inr (.inr 0)), some (.inl a0), some (.inl a1), some (.inl a2), some (.inl a3), some (.inl a4), none] 0 [] (f_X10_mix a0 a1 a2 a3 a4 M0) := by
  unfold f_X10_mix
  refine j_iload_n rfl d_X10_mix_0 rfl ?_
  refine j_bind (fun r1 h2 => ?_)
  refine j_callS (y := y_X10_isSlot) (I' := i_X10_isSlot) (avs := [.inl a0]) (st := []) (c_X10_isSlot G a0 M0 r1 h2) cs_Main_89 wd_474 wd_475 rfl rfl (Nat.le_of_ble_eq_true rfl) ⟨rfl, rfl⟩ ⟨by decide, by decide⟩ ⟨by decide, by decide⟩ d_X10_mix_1 ?_
  refine j_if_eq (tgt := 22) d_X10_mix_4 (by decide) (fun h3 => ?_) (fun h3 => ?_)
  · refine j_iconst ⟨by decide, by decide⟩ d_X10_mix_22 ?_
    exact j_iret d_X10_mix_23 rfl rfl ⟨rfl, rfl⟩
  · refine j_iload_n rfl d_X10_mix_7 rfl ?_
    refine j_bind (fun r4 h5 => ?_)
    refine j_callS (y := y_X10_isSlot) (I' := i_X10_isSlot) (avs := [.inl a2]) (st := []) (c_X10_isSlot G a2 M0 r4 h5) cs_Main_89 wd_474 wd_475 rfl rfl (Nat.le_of_ble_eq_true rfl) ⟨rfl, rfl⟩ ⟨by decide, by decide⟩ ⟨by decide, by decide⟩ d_X10_mix_8 ?_
    refine j_if_eq (tgt := 22) d_X10_mix_11 (by decide) (fun h6 => ?_) (fun h6 => ?_)
    · refine j_iconst ⟨by decide, by decide⟩ d_X10_mix_22 ?_
      exact j_iret d_X10_mix_23 rfl rfl ⟨rfl, rfl⟩
    · refine j_iload d_X10_mix_14 rfl ?_
      refine j_bind (fun r7 h8 => ?_)
      refine j_callS (y := y_X10_isSlot) (I' := i_X10_isSlot) (avs := [.inl a4]) (st := []) (c_X10_isSlot G a4 M0 r7 h8) cs_Main_89 wd_474 wd_475 rfl rfl (Nat.le_of_ble_eq_true rfl) ⟨rfl, rfl⟩ ⟨by decide, by decide⟩ ⟨by decide, by decide⟩ d_X10_mix_16 ?_
      refine j_if_ne (tgt := 24) d_X10_mix_19 (by decide) (fun h9 => ?_) (fun h9 => ?_)
      · refine j_iconst ⟨by decide, by decide⟩ d_X10_mix_24 ?_
        refine j_istore (lv' := [some (.inr (.inr 0)), some (.inl a0), some (.inl a1), some (.inl a2), some (.inl a3), some (.inl a4), some (.inl 0)]) d_X10_mix_25 (Nat.le_of_ble_eq_true rfl) rfl ?_
        exact j_wk [true, true, true, true, true, true, true] rfl rfl (T_X10_mix_27 G a0 a1 a2 a3 a4 0 M0)
      · refine j_iconst ⟨by decide, by decide⟩ d_X10_mix_22 ?_
        exact j_iret d_X10_mix_23 rfl rfl ⟨rfl, rfl⟩
set_option maxHeartbeats 4000000 in
set_option maxRecDepth 100000 in
theorem c_X10_mix (G : tp_G) (a0 : Int) (a1 : Int) (a2 : Int) (a3 : Int) (a4 : Int) (M0 : tp_M) (r : Int × tp_M) (h : f_X10_mix a0 a1 a2 a3 a4 M0 = some r) (l : Launch) : Met l y_X10_mix (tp_ws y_X10_mix i_X10_mix) (tp_rm 2) (tp_Pc G [.inr (.inr 0), .inl a0, .inl a1, .inl a2, .inl a3, .inl a4] tp_NC (tp_st M0)) (tp_Q G (o_X10_mix r)) 0 0 (tp_A G) :=
  tp_met (I := i_X10_mix) (y := y_X10_mix) (by decide +kernel) (Eq.refl "TypesAtPrime") (Eq.refl "mix") (lv := [some (.inr (.inr 0)), some (.inl a0), some (.inl a1), some (.inl a2), some (.inl a3), some (.inl a4), none]) rfl (Nat.le_of_ble_eq_true rfl) (T_X10_mix G a0 a1 a2 a3 a4 M0) h l
theorem cs_Main_122 : tp_CS "TypesAtPrime" 122 y_J7_fill_d0a16 i_J7_fill_d0a16 2 := ⟨wd_549, wd_14, by decide, by decide, by decide +kernel⟩
theorem wd_547 : (.methodLink "TypesAtPrime" 122 ⟨"java/util/Arrays", "fill", "([JJ)V"⟩ : Cond) ∈ lw_tbl := List.mem_append_right _ (List.mem_of_getElem? (i := 547) (by decide +kernel))
def y_X10_times : MethodName := ⟨"TypesAtPrime", "times", "(III)I"⟩
abbrev i_X10_times : tp_I := (prog_1_method_10_code, "TypesAtPrime", (some .int), 8, "times")
abbrev o_X10_times : Int × tp_M → tp_O := fun r => (some (.inl r.1), tp_NC, tp_st r.2)
theorem d_X10_times_0 : decode prog_1_method_10_code 0 = .ok (.iload_n 1, 1) := by decide +kernel
theorem d_X10_times_1 : decode prog_1_method_10_code 1 = .ok (.invokestatic 89, 3) := by decide +kernel
theorem d_X10_times_4 : decode prog_1_method_10_code 4 = .ok (.ifCond .eq 17, 3) := by decide +kernel
theorem d_X10_times_7 : decode prog_1_method_10_code 7 = .ok (.iload_n 2, 1) := by decide +kernel
theorem d_X10_times_8 : decode prog_1_method_10_code 8 = .ok (.invokestatic 89, 3) := by decide +kernel
theorem d_X10_times_11 : decode prog_1_method_10_code 11 = .ok (.ifCond .eq 10, 3) := by decide +kernel
theorem d_X10_times_14 : decode prog_1_method_10_code 14 = .ok (.iload_n 3, 1) := by decide +kernel
theorem d_X10_times_15 : decode prog_1_method_10_code 15 = .ok (.invokestatic 89, 3) := by decide +kernel
theorem d_X10_times_18 : decode prog_1_method_10_code 18 = .ok (.ifCond .ne 5, 3) := by decide +kernel
theorem d_X10_times_21 : decode prog_1_method_10_code 21 = .ok (.iconst (-1), 1) := by decide +kernel
theorem d_X10_times_22 : decode prog_1_method_10_code 22 = .ok (.ireturn, 1) := by decide +kernel
theorem d_X10_times_23 : decode prog_1_method_10_code 23 = .ok (.aload_n 0, 1) := by decide +kernel
theorem d_X10_times_24 : decode prog_1_method_10_code 24 = .ok (.getfield 24, 3) := by decide +kernel
theorem d_X10_times_27 : decode prog_1_method_10_code 27 = .ok (.iload_n 1, 1) := by decide +kernel
theorem d_X10_times_28 : decode prog_1_method_10_code 28 = .ok (.aaload, 1) := by decide +kernel
theorem d_X10_times_29 : decode prog_1_method_10_code 29 = .ok (.invokestatic 118, 3) := by decide +kernel
theorem d_X10_times_32 : decode prog_1_method_10_code 32 = .ok (.istore 4, 2) := by decide +kernel
theorem d_X10_times_34 : decode prog_1_method_10_code 34 = .ok (.aload_n 0, 1) := by decide +kernel
theorem d_X10_times_35 : decode prog_1_method_10_code 35 = .ok (.getfield 24, 3) := by decide +kernel
theorem d_X10_times_38 : decode prog_1_method_10_code 38 = .ok (.iload_n 2, 1) := by decide +kernel
theorem d_X10_times_39 : decode prog_1_method_10_code 39 = .ok (.aaload, 1) := by decide +kernel
theorem d_X10_times_40 : decode prog_1_method_10_code 40 = .ok (.invokestatic 118, 3) := by decide +kernel
theorem d_X10_times_43 : decode prog_1_method_10_code 43 = .ok (.istore 5, 2) := by decide +kernel
theorem d_X10_times_45 : decode prog_1_method_10_code 45 = .ok (.iload 4, 2) := by decide +kernel
theorem d_X10_times_47 : decode prog_1_method_10_code 47 = .ok (.ifCond .lt 21, 3) := by decide +kernel
theorem d_X10_times_50 : decode prog_1_method_10_code 50 = .ok (.iload 5, 2) := by decide +kernel
theorem d_X10_times_52 : decode prog_1_method_10_code 52 = .ok (.ifCond .lt 16, 3) := by decide +kernel
theorem d_X10_times_55 : decode prog_1_method_10_code 55 = .ok (.iload 4, 2) := by decide +kernel
theorem d_X10_times_57 : decode prog_1_method_10_code 57 = .ok (.iload 5, 2) := by decide +kernel
theorem d_X10_times_59 : decode prog_1_method_10_code 59 = .ok (.iadd, 1) := by decide +kernel
theorem d_X10_times_60 : decode prog_1_method_10_code 60 = .ok (.bipush 9, 2) := by decide +kernel
theorem d_X10_times_62 : decode prog_1_method_10_code 62 = .ok (.if_icmp .lt 6, 3) := by decide +kernel
theorem d_X10_times_65 : decode prog_1_method_10_code 65 = .ok (.bipush (-6), 2) := by decide +kernel
theorem d_X10_times_67 : decode prog_1_method_10_code 67 = .ok (.ireturn, 1) := by decide +kernel
theorem d_X10_times_68 : decode prog_1_method_10_code 68 = .ok (.aload_n 0, 1) := by decide +kernel
theorem d_X10_times_69 : decode prog_1_method_10_code 69 = .ok (.getfield 68, 3) := by decide +kernel
theorem d_X10_times_72 : decode prog_1_method_10_code 72 = .ok (.lconst 0, 1) := by decide +kernel
theorem d_X10_times_73 : decode prog_1_method_10_code 73 = .ok (.invokestatic 122, 3) := by decide +kernel
theorem d_X10_times_76 : decode prog_1_method_10_code 76 = .ok (.iconst 0, 1) := by decide +kernel
theorem d_X10_times_77 : decode prog_1_method_10_code 77 = .ok (.istore 6, 2) := by decide +kernel
theorem d_X10_times_79 : decode prog_1_method_10_code 79 = .ok (.iload 6, 2) := by decide +kernel
theorem d_X10_times_81 : decode prog_1_method_10_code 81 = .ok (.bipush 9, 2) := by decide +kernel
theorem d_X10_times_83 : decode prog_1_method_10_code 83 = .ok (.if_icmp .ge 59, 3) := by decide +kernel
theorem d_X10_times_86 : decode prog_1_method_10_code 86 = .ok (.iconst 0, 1) := by decide +kernel
theorem d_X10_times_87 : decode prog_1_method_10_code 87 = .ok (.istore 7, 2) := by decide +kernel
theorem d_X10_times_89 : decode prog_1_method_10_code 89 = .ok (.iload 7, 2) := by decide +kernel
theorem d_X10_times_91 : decode prog_1_method_10_code 91 = .ok (.bipush 9, 2) := by decide +kernel
theorem d_X10_times_93 : decode prog_1_method_10_code 93 = .ok (.if_icmp .ge 43, 3) := by decide +kernel
theorem d_X10_times_96 : decode prog_1_method_10_code 96 = .ok (.aload_n 0, 1) := by decide +kernel
theorem d_X10_times_97 : decode prog_1_method_10_code 97 = .ok (.getfield 68, 3) := by decide +kernel
theorem d_X10_times_100 : decode prog_1_method_10_code 100 = .ok (.iload 6, 2) := by decide +kernel
theorem d_X10_times_102 : decode prog_1_method_10_code 102 = .ok (.iload 7, 2) := by decide +kernel
theorem d_X10_times_104 : decode prog_1_method_10_code 104 = .ok (.iadd, 1) := by decide +kernel
theorem d_X10_times_105 : decode prog_1_method_10_code 105 = .ok (.dup2, 1) := by decide +kernel
theorem d_X10_times_106 : decode prog_1_method_10_code 106 = .ok (.laload, 1) := by decide +kernel
theorem d_X10_times_107 : decode prog_1_method_10_code 107 = .ok (.aload_n 0, 1) := by decide +kernel
theorem d_X10_times_108 : decode prog_1_method_10_code 108 = .ok (.getfield 24, 3) := by decide +kernel
theorem d_X10_times_111 : decode prog_1_method_10_code 111 = .ok (.iload_n 1, 1) := by decide +kernel
theorem d_X10_times_112 : decode prog_1_method_10_code 112 = .ok (.aaload, 1) := by decide +kernel
theorem d_X10_times_113 : decode prog_1_method_10_code 113 = .ok (.iload 6, 2) := by decide +kernel
theorem d_X10_times_115 : decode prog_1_method_10_code 115 = .ok (.iaload, 1) := by decide +kernel
theorem d_X10_times_116 : decode prog_1_method_10_code 116 = .ok (.i2l, 1) := by decide +kernel
theorem d_X10_times_117 : decode prog_1_method_10_code 117 = .ok (.aload_n 0, 1) := by decide +kernel
theorem d_X10_times_118 : decode prog_1_method_10_code 118 = .ok (.getfield 24, 3) := by decide +kernel
theorem d_X10_times_121 : decode prog_1_method_10_code 121 = .ok (.iload_n 2, 1) := by decide +kernel
theorem d_X10_times_122 : decode prog_1_method_10_code 122 = .ok (.aaload, 1) := by decide +kernel
theorem d_X10_times_123 : decode prog_1_method_10_code 123 = .ok (.iload 7, 2) := by decide +kernel
theorem d_X10_times_125 : decode prog_1_method_10_code 125 = .ok (.iaload, 1) := by decide +kernel
theorem d_X10_times_126 : decode prog_1_method_10_code 126 = .ok (.i2l, 1) := by decide +kernel
theorem d_X10_times_127 : decode prog_1_method_10_code 127 = .ok (.lmul, 1) := by decide +kernel
theorem d_X10_times_128 : decode prog_1_method_10_code 128 = .ok (.ladd, 1) := by decide +kernel
theorem d_X10_times_129 : decode prog_1_method_10_code 129 = .ok (.lastore, 1) := by decide +kernel
theorem d_X10_times_130 : decode prog_1_method_10_code 130 = .ok (.iinc 7 1, 3) := by decide +kernel
theorem d_X10_times_133 : decode prog_1_method_10_code 133 = .ok (.goto (-44), 3) := by decide +kernel
theorem d_X10_times_136 : decode prog_1_method_10_code 136 = .ok (.iinc 6 1, 3) := by decide +kernel
theorem d_X10_times_139 : decode prog_1_method_10_code 139 = .ok (.goto (-60), 3) := by decide +kernel
theorem d_X10_times_142 : decode prog_1_method_10_code 142 = .ok (.aload_n 0, 1) := by decide +kernel
theorem d_X10_times_143 : decode prog_1_method_10_code 143 = .ok (.iload_n 3, 1) := by decide +kernel
theorem d_X10_times_144 : decode prog_1_method_10_code 144 = .ok (.invokevirtual 99, 3) := by decide +kernel
theorem d_X10_times_147 : decode prog_1_method_10_code 147 = .ok (.ifCond .eq 7, 3) := by decide +kernel
theorem d_X10_times_150 : decode prog_1_method_10_code 150 = .ok (.iconst 1, 1) := by decide +kernel
theorem d_X10_times_151 : decode prog_1_method_10_code 151 = .ok (.goto 5, 3) := by decide +kernel
theorem d_X10_times_154 : decode prog_1_method_10_code 154 = .ok (.bipush (-3), 2) := by decide +kernel
theorem d_X10_times_156 : decode prog_1_method_10_code 156 = .ok (.ireturn, 1) := by decide +kernel
def f_X10_times_89B (rec_79 : Int → tp_M → Option (Int × tp_M)) (x1 : Int) (x2 : Int) (x3 : Int) (x6 : Int) (rec_89 : Int → tp_M → Option (Int × tp_M)) (x7 : Int) (M0 : tp_M) : Option (Int × tp_M) :=
  if 9 ≤ x7 then
    tp_lt (tp_w (x6 + 1)) fun y24 =>
    rec_79 y24 M0
  else
    if 0 ≤ (tp_w (x6 + x7)) ∧ (tp_w (x6 + x7)) < 18 then
      if 0 ≤ x1 ∧ x1 < 5 then
        if 0 ≤ x6 ∧ x6 < 9 then
          if 0 ≤ x2 ∧ x2 < 5 then
            if 0 ≤ x7 ∧ x7 < 9 then
              if 0 ≤ (tp_w (x6 + x7)) ∧ (tp_w (x6 + x7)) < 18 then
                tp_mp (tp_up M0 481 (tp_w (x6 + x7)) (tp_wl ((M0 481 (tp_w (x6 + x7))) + (tp_wl ((M0 (4 + x1) x6) * (M0 (4 + x2) x7)))))) fun M27 =>
                tp_lt (tp_w (x7 + 1)) fun y28 =>
                rec_89 y28 M27 else none else none else none else none else none else none
set_option maxHeartbeats 4000000 in
set_option maxRecDepth 100000 in
theorem T_X10_times_89B (G : tp_G) (rec_79 : Int → tp_M → Option (Int × tp_M)) (x1 : Int) (x2 : Int) (x3 : Int) (x6 : Int) (hrec_79 : ∀ (x6' : Int) (M' : tp_M), tp_J i_X10_times (tp_rm 2) G 0 0 o_X10_times tp_NC (tp_st M') 0 0 [some (.inr (.inr 0)), some (.inl x1), some (.inl x2), some (.inl x3), none, none, some (.inl (x6')), none] 79 [] (rec_79 x6' M')) (rec_89 : Int → tp_M → Option (Int × tp_M)) (hrec_89 : ∀ (x7' : Int) (M' : tp_M), tp_J i_X10_times (tp_rm 2) G 0 0 o_X10_times tp_NC (tp_st M') 0 0 [some (.inr (.inr 0)), some (.inl x1), some (.inl x2), some (.inl x3), none, none, some (.inl x6), some (.inl (x7'))] 89 [] (rec_89 x7' M')) (x7 : Int) (M0 : tp_M) : tp_J i_X10_times (tp_rm 2) G 0 0 o_X10_times tp_NC (tp_st M0) 0 0 [some (.inr (.inr 0)), some (.inl x1), some (.inl x2), some (.inl x3), none, none, some (.inl x6), some (.inl x7)] 89 [] (f_X10_times_89B rec_79 x1 x2 x3 x6 rec_89 x7 M0) := by
  unfold f_X10_times_89B
  refine j_iload d_X10_times_89 rfl ?_
  refine j_bipush ⟨by decide, by decide⟩ (by decide +kernel) d_X10_times_91 ?_
  refine j_icmp_ge (tgt := 136) d_X10_times_93 (by decide) (fun h23 => ?_) (fun h23 => ?_)
  · refine j_iincN (lv' := fun y24 => [some (.inr (.inr 0)), some (.inl x1), some (.inl x2), some (.inl x3), none, none, some (.inl y24), some (.inl x7)]) d_X10_times_136 rfl (Nat.le_of_ble_eq_true rfl) (fun _ => rfl) (fun y24 hy24 => ?_)
    refine j_goto (tgt := 79) d_X10_times_139 (by decide) ?_
    exact j_wk [true, true, true, true, false, false, true, false] rfl rfl (hrec_79 y24 M0)
  · refine j_aload_n rfl d_X10_times_96 rfl ?_
    refine j_getr fl_Main_68 tg_0 rv_0_10 d_X10_times_97 ?_
    refine j_iload d_X10_times_100 rfl ?_
    refine j_iload d_X10_times_102 rfl ?_
    refine j_iadd d_X10_times_104 ?_
    refine j_dup2 d_X10_times_105 (fun G => tp_cat G _) (fun G => tp_cat G _) ?_
    refine j_lald tg_481 al_481 d_X10_times_106 ?_
    refine j_aload_n rfl d_X10_times_107 rfl ?_
    refine j_getr fl_Main_24 tg_0 rv_0_3 d_X10_times_108 ?_
    refine j_iload_n rfl d_X10_times_111 rfl ?_
    refine j_aald (v := (4 + x1)) (ty := (.array .int)) tg_3 (by decide) al_3 (by decide) rfl d_X10_times_112 (fun h1 h2 => (aa_3 _ h1 h2).1) (fun hi25 => ?_)
    refine j_iload d_X10_times_113 rfl ?_
    refine j_iald ((aa_3 _ hi25.1 hi25.2).2.1) ((aa_3 _ hi25.1 hi25.2).2.2) d_X10_times_115 ?_
    refine j_i2l d_X10_times_116 ?_
    refine j_aload_n rfl d_X10_times_117 rfl ?_
    refine j_getr fl_Main_24 tg_0 rv_0_3 d_X10_times_118 ?_
    refine j_iload_n rfl d_X10_times_121 rfl ?_
    refine j_aald (v := (4 + x2)) (ty := (.array .int)) tg_3 (by decide) al_3 (by decide) rfl d_X10_times_122 (fun h1 h2 => (aa_3 _ h1 h2).1) (fun hi26 => ?_)
    refine j_iload d_X10_times_123 rfl ?_
    refine j_iald ((aa_3 _ hi26.1 hi26.2).2.1) ((aa_3 _ hi26.1 hi26.2).2.2) d_X10_times_125 ?_
    refine j_i2l d_X10_times_126 ?_
    refine j_lmul d_X10_times_127 ?_
    refine j_ladd d_X10_times_128 ?_
    refine j_last tg_481 al_481 d_X10_times_129 (fun M27 hM27 => ?_)
    refine j_iincN (lv' := fun y28 => [some (.inr (.inr 0)), some (.inl x1), some (.inl x2), some (.inl x3), none, none, some (.inl x6), some (.inl y28)]) d_X10_times_130 rfl (Nat.le_of_ble_eq_true rfl) (fun _ => rfl) (fun y28 hy28 => ?_)
    refine j_goto (tgt := 89) d_X10_times_133 (by decide) ?_
    exact j_wk [true, true, true, true, false, false, true, true] rfl rfl (hrec_89 y28 M27)
def f_X10_times_89 (rec_79 : Int → tp_M → Option (Int × tp_M)) (x1 : Int) (x2 : Int) (x3 : Int) (x6 : Int) (x7 : Int) (M0 : tp_M) : Option (Int × tp_M) := tp_lp (σ := Int × tp_M) (fun rec_ u => f_X10_times_89B rec_79 x1 x2 x3 x6 (fun x7' M0' => rec_ (x7', M0')) u.1 u.2) tp_N (x7, M0)
set_option maxHeartbeats 4000000 in
set_option maxRecDepth 100000 in
theorem T_X10_times_89 (G : tp_G) (rec_79 : Int → tp_M → Option (Int × tp_M)) (x1 : Int) (x2 : Int) (x3 : Int) (x6 : Int) (x7 : Int) (M0 : tp_M) (hrec_79 : ∀ (x6' : Int) (M' : tp_M), tp_J i_X10_times (tp_rm 2) G 0 0 o_X10_times tp_NC (tp_st M') 0 0 [some (.inr (.inr 0)), some (.inl x1), some (.inl x2), some (.inl x3), none, none, some (.inl (x6')), none] 79 [] (rec_79 x6' M')) : tp_J i_X10_times (tp_rm 2) G 0 0 o_X10_times tp_NC (tp_st M0) 0 0 [some (.inr (.inr 0)), some (.inl x1), some (.inl x2), some (.inl x3), none, none, some (.inl x6), some (.inl x7)] 89 [] (f_X10_times_89 rec_79 x1 x2 x3 x6 x7 M0) := by
  unfold f_X10_times_89
  exact j_lp (σ := Int × tp_M) (n' := fun _ => tp_NC) (g' := fun u => tp_st u.2) (k' := fun _ => 0) (q' := fun _ => 0) (lv' := fun u => [some (.inr (.inr 0)), some (.inl x1), some (.inl x2), some (.inl x3), none, none, some (.inl x6), some (.inl u.1)]) (fun rec_ hrec u => T_X10_times_89B G rec_79 x1 x2 x3 x6 hrec_79 (fun x7' M0' => rec_ (x7', M0')) (fun x7' M0' => hrec (x7', M0')) u.1 u.2) tp_N (x7, M0)
def f_X10_times_79B (x1 : Int) (x2 : Int) (x3 : Int) (rec_79 : Int → tp_M → Option (Int × tp_M)) (x6 : Int) (M0 : tp_M) : Option (Int × tp_M) :=
  if 9 ≤ x6 then
    (f_X10_store x3 M0).bind fun r20 =>
    if r20.1 = 0 then
      some ((-3), r20.2)
    else
      some (1, r20.2)
  else
    f_X10_times_89 rec_79 x1 x2 x3 x6 0 M0
set_option maxHeartbeats 4000000 in
set_option maxRecDepth 100000 in
theorem T_X10_times_79B (G : tp_G) (x1 : Int) (x2 : Int) (x3 : Int) (rec_79 : Int → tp_M → Option (Int × tp_M)) (hrec_79 : ∀ (x6' : Int) (M' : tp_M), tp_J i_X10_times (tp_rm 2) G 0 0 o_X10_times tp_NC (tp_st M') 0 0 [some (.inr (.inr 0)), some (.inl x1), some (.inl x2), some (.inl x3), none, none, some (.inl (x6')), none] 79 [] (rec_79 x6' M')) (x6 : Int) (M0 : tp_M) : tp_J i_X10_times (tp_rm 2) G 0 0 o_X10_times tp_NC (tp_st M0) 0 0 [some (.inr (.inr 0)), some (.inl x1), some (.inl x2), some (.inl x3), none, none, some (.inl x6), none] 79 [] (f_X10_times_79B x1 x2 x3 rec_79 x6 M0) := by
  unfold f_X10_times_79B
  refine j_iload d_X10_times_79 rfl ?_
  refine j_bipush ⟨by decide, by decide⟩ (by decide +kernel) d_X10_times_81 ?_
  refine j_icmp_ge (tgt := 142) d_X10_times_83 (by decide) (fun h19 => ?_) (fun h19 => ?_)
  · refine j_aload_n rfl d_X10_times_142 rfl ?_
    refine j_iload_n rfl d_X10_times_143 rfl ?_
    refine j_bind (fun r20 h21 => ?_)
    refine j_callV (y := y_X10_store) (I' := i_X10_store) (avs := [.inl x3]) (c := 0) (st := []) (c_X10_store G x3 M0 r20 h21) cs_Main_99 wd_503 wd_505 ws_4 tg_0 rfl rfl rfl (Nat.le_of_ble_eq_true rfl) ⟨rfl, rfl⟩ ⟨by decide, by decide⟩ ⟨by decide, by decide⟩ d_X10_times_144 ?_
    refine j_if_eq (tgt := 154) d_X10_times_147 (by decide) (fun h22 => ?_) (fun h22 => ?_)
    · refine j_bipush ⟨by decide, by decide⟩ (by decide +kernel) d_X10_times_154 ?_
      exact j_iret d_X10_times_156 rfl rfl ⟨rfl, rfl⟩
    · refine j_iconst ⟨by decide, by decide⟩ d_X10_times_150 ?_
      refine j_goto (tgt := 156) d_X10_times_151 (by decide) ?_
      exact j_iret d_X10_times_156 rfl rfl ⟨rfl, rfl⟩
  · refine j_iconst ⟨by decide, by decide⟩ d_X10_times_86 ?_
    refine j_istore (lv' := [some (.inr (.inr 0)), some (.inl x1), some (.inl x2), some (.inl x3), none, none, some (.inl x6), some (.inl 0)]) d_X10_times_87 (Nat.le_of_ble_eq_true rfl) rfl ?_
    exact j_wk [true, true, true, true, false, false, true, true] rfl rfl (T_X10_times_89 G rec_79 x1 x2 x3 x6 0 M0 hrec_79)
def f_X10_times_79 (x1 : Int) (x2 : Int) (x3 : Int) (x6 : Int) (M0 : tp_M) : Option (Int × tp_M) := tp_lp (σ := Int × tp_M) (fun rec_ u => f_X10_times_79B x1 x2 x3 (fun x6' M0' => rec_ (x6', M0')) u.1 u.2) tp_N (x6, M0)
set_option maxHeartbeats 4000000 in
set_option maxRecDepth 100000 in
theorem T_X10_times_79 (G : tp_G) (x1 : Int) (x2 : Int) (x3 : Int) (x6 : Int) (M0 : tp_M) : tp_J i_X10_times (tp_rm 2) G 0 0 o_X10_times tp_NC (tp_st M0) 0 0 [some (.inr (.inr 0)), some (.inl x1), some (.inl x2), some (.inl x3), none, none, some (.inl x6), none] 79 [] (f_X10_times_79 x1 x2 x3 x6 M0) := by
  unfold f_X10_times_79
  exact j_lp (σ := Int × tp_M) (n' := fun _ => tp_NC) (g' := fun u => tp_st u.2) (k' := fun _ => 0) (q' := fun _ => 0) (lv' := fun u => [some (.inr (.inr 0)), some (.inl x1), some (.inl x2), some (.inl x3), none, none, some (.inl u.1), none]) (fun rec_ hrec u => T_X10_times_79B G x1 x2 x3 (fun x6' M0' => rec_ (x6', M0')) (fun x6' M0' => hrec (x6', M0')) u.1 u.2) tp_N (x6, M0)
def f_X10_times_68 (x1 : Int) (x2 : Int) (x3 : Int) (M0 : tp_M) : Option (Int × tp_M) :=
  (f_J7_fill_d0a16 481 0 M0).bind fun r17 =>
  f_X10_times_79 x1 x2 x3 0 r17
set_option maxHeartbeats 4000000 in
set_option maxRecDepth 100000 in
theorem T_X10_times_68 (G : tp_G) (x1 : Int) (x2 : Int) (x3 : Int) (M0 : tp_M) : tp_J i_X10_times (tp_rm 2) G 0 0 o_X10_times tp_NC (tp_st M0) 0 0 [some (.inr (.inr 0)), some (.inl x1), some (.inl x2), some (.inl x3), none, none, none, none] 68 [] (f_X10_times_68 x1 x2 x3 M0) := by
  unfold f_X10_times_68
  refine j_aload_n rfl d_X10_times_68 rfl ?_
  refine j_getr fl_Main_68 tg_0 rv_0_10 d_X10_times_69 ?_
  refine j_lconst (x := 0) ⟨by decide, by decide⟩ (by decide +kernel) d_X10_times_72 ?_
  refine j_bind (fun r17 h18 => ?_)
  refine j_callS (y := y_J7_fill_d0a16) (I' := i_J7_fill_d0a16) (avs := [.inr (.inr 481), .inr (.inl 0)]) (st := []) (c_J7_fill_d0a16 G 481 0 M0 r17 h18) cs_Main_122 wd_547 wd_548 rfl rfl (Nat.le_of_ble_eq_true rfl) ⟨rfl, rfl⟩ ⟨by decide, by decide⟩ ⟨by decide, by decide⟩ d_X10_times_73 ?_
  refine j_iconst ⟨by decide, by decide⟩ d_X10_times_76 ?_
  refine j_istore (lv' := [some (.inr (.inr 0)), some (.inl x1), some (.inl x2), some (.inl x3), none, none, some (.inl 0), none]) d_X10_times_77 (Nat.le_of_ble_eq_true rfl) rfl ?_
  exact j_wk [true, true, true, true, false, false, true, false] rfl rfl (T_X10_times_79 G x1 x2 x3 0 r17)
def f_X10_times (a0 : Int) (a1 : Int) (a2 : Int) (M0 : tp_M) : Option (Int × tp_M) :=
  (f_X10_isSlot a0 M0).bind fun r1 =>
  if r1 = 0 then
    some ((-1), M0)
  else
    (f_X10_isSlot a1 M0).bind fun r4 =>
    if r4 = 0 then
      some ((-1), M0)
    else
      (f_X10_isSlot a2 M0).bind fun r7 =>
      if ¬ r7 = 0 then
        if 0 ≤ a0 ∧ a0 < 5 then
          (f_X10_degreeOf (4 + a0) M0).bind fun r11 =>
          if 0 ≤ a1 ∧ a1 < 5 then
            (f_X10_degreeOf (4 + a1) M0).bind fun r14 =>
            if r11 < 0 then
              f_X10_times_68 a0 a1 a2 M0
            else
              if r14 < 0 then
                f_X10_times_68 a0 a1 a2 M0
              else
                if (tp_w (r11 + r14)) < 9 then
                  f_X10_times_68 a0 a1 a2 M0
                else
                  some ((-6), M0) else none else none
      else
        some ((-1), M0)
set_option maxHeartbeats 4000000 in
set_option maxRecDepth 100000 in
theorem T_X10_times (G : tp_G) (a0 : Int) (a1 : Int) (a2 : Int) (M0 : tp_M) : tp_J i_X10_times (tp_rm 2) G 0 0 o_X10_times tp_NC (tp_st M0) 0 0 [some (.inr (.inr 0)), some (.inl a0), some (.inl a1), some (.inl a2), none, none, none, none] 0 [] (f_X10_times a0 a1 a2 M0) := by
  unfold f_X10_times
  refine j_iload_n rfl d_X10_times_0 rfl ?_
  refine j_bind (fun r1 h2 => ?_)
  refine j_callS (y := y_X10_isSlot) (I' := i_X10_isSlot) (avs := [.inl a0]) (st := []) (c_X10_isSlot G a0 M0 r1 h2) cs_Main_89 wd_474 wd_475 rfl rfl (Nat.le_of_ble_eq_true rfl) ⟨rfl, rfl⟩ ⟨by decide, by decide⟩ ⟨by decide, by decide⟩ d_X10_times_1 ?_
  refine j_if_eq (tgt := 21) d_X10_times_4 (by decide) (fun h3 => ?_) (fun h3 => ?_)
  · refine j_iconst ⟨by decide, by decide⟩ d_X10_times_21 ?_
    exact j_iret d_X10_times_22 rfl rfl ⟨rfl, rfl⟩
  · refine j_iload_n rfl d_X10_times_7 rfl ?_
    refine j_bind (fun r4 h5 => ?_)
    refine j_callS (y := y_X10_isSlot) (I' := i_X10_isSlot) (avs := [.inl a1]) (st := []) (c_X10_isSlot G a1 M0 r4 h5) cs_Main_89 wd_474 wd_475 rfl rfl (Nat.le_of_ble_eq_true rfl) ⟨rfl, rfl⟩ ⟨by decide, by decide⟩ ⟨by decide, by decide⟩ d_X10_times_8 ?_
    refine j_if_eq (tgt := 21) d_X10_times_11 (by decide) (fun h6 => ?_) (fun h6 => ?_)
    · refine j_iconst ⟨by decide, by decide⟩ d_X10_times_21 ?_
      exact j_iret d_X10_times_22 rfl rfl ⟨rfl, rfl⟩
    · refine j_iload_n rfl d_X10_times_14 rfl ?_
      refine j_bind (fun r7 h8 => ?_)
      refine j_callS (y := y_X10_isSlot) (I' := i_X10_isSlot) (avs := [.inl a2]) (st := []) (c_X10_isSlot G a2 M0 r7 h8) cs_Main_89 wd_474 wd_475 rfl rfl (Nat.le_of_ble_eq_true rfl) ⟨rfl, rfl⟩ ⟨by decide, by decide⟩ ⟨by decide, by decide⟩ d_X10_times_15 ?_
      refine j_if_ne (tgt := 23) d_X10_times_18 (by decide) (fun h9 => ?_) (fun h9 => ?_)
      · refine j_aload_n rfl d_X10_times_23 rfl ?_
        refine j_getr fl_Main_24 tg_0 rv_0_3 d_X10_times_24 ?_
        refine j_iload_n rfl d_X10_times_27 rfl ?_
        refine j_aald (v := (4 + a0)) (ty := (.array .int)) tg_3 (by decide) al_3 (by decide) rfl d_X10_times_28 (fun h1 h2 => (aa_3 _ h1 h2).1) (fun hi10 => ?_)
        refine j_bind (fun r11 h12 => ?_)
        refine j_callS (y := y_X10_degreeOf) (I' := i_X10_degreeOf) (avs := [.inr (.inr (4 + a0))]) (st := []) (c_X10_degreeOf G (4 + a0) M0 r11 h12) cs_Main_118 wd_516 wd_517 rfl rfl (Nat.le_of_ble_eq_true rfl) ⟨rfl, rfl⟩ ⟨by decide, by decide⟩ ⟨by decide, by decide⟩ d_X10_times_29 ?_
        refine j_istore (lv' := [some (.inr (.inr 0)), some (.inl a0), some (.inl a1), some (.inl a2), some (.inl r11), none, none, none]) d_X10_times_32 (Nat.le_of_ble_eq_true rfl) rfl ?_
        refine j_aload_n rfl d_X10_times_34 rfl ?_
        refine j_getr fl_Main_24 tg_0 rv_0_3 d_X10_times_35 ?_
        refine j_iload_n rfl d_X10_times_38 rfl ?_
        refine j_aald (v := (4 + a1)) (ty := (.array .int)) tg_3 (by decide) al_3 (by decide) rfl d_X10_times_39 (fun h1 h2 => (aa_3 _ h1 h2).1) (fun hi13 => ?_)
        refine j_bind (fun r14 h15 => ?_)
        refine j_callS (y := y_X10_degreeOf) (I' := i_X10_degreeOf) (avs := [.inr (.inr (4 + a1))]) (st := []) (c_X10_degreeOf G (4 + a1) M0 r14 h15) cs_Main_118 wd_516 wd_517 rfl rfl (Nat.le_of_ble_eq_true rfl) ⟨rfl, rfl⟩ ⟨by decide, by decide⟩ ⟨by decide, by decide⟩ d_X10_times_40 ?_
        refine j_istore (lv' := [some (.inr (.inr 0)), some (.inl a0), some (.inl a1), some (.inl a2), some (.inl r11), some (.inl r14), none, none]) d_X10_times_43 (Nat.le_of_ble_eq_true rfl) rfl ?_
        refine j_iload d_X10_times_45 rfl ?_
        refine j_if_lt (tgt := 68) d_X10_times_47 (by decide) (fun h16 => ?_) (fun h16 => ?_)
        · exact j_wk [true, true, true, true, false, false, false, false] rfl rfl (T_X10_times_68 G a0 a1 a2 M0)
        · refine j_iload d_X10_times_50 rfl ?_
          refine j_if_lt (tgt := 68) d_X10_times_52 (by decide) (fun h29 => ?_) (fun h29 => ?_)
          · exact j_wk [true, true, true, true, false, false, false, false] rfl rfl (T_X10_times_68 G a0 a1 a2 M0)
          · refine j_iload d_X10_times_55 rfl ?_
            refine j_iload d_X10_times_57 rfl ?_
            refine j_iadd d_X10_times_59 ?_
            refine j_bipush ⟨by decide, by decide⟩ (by decide +kernel) d_X10_times_60 ?_
            refine j_icmp_lt (tgt := 68) d_X10_times_62 (by decide) (fun h30 => ?_) (fun h30 => ?_)
            · exact j_wk [true, true, true, true, false, false, false, false] rfl rfl (T_X10_times_68 G a0 a1 a2 M0)
            · refine j_bipush ⟨by decide, by decide⟩ (by decide +kernel) d_X10_times_65 ?_
              exact j_iret d_X10_times_67 rfl rfl ⟨rfl, rfl⟩
      · refine j_iconst ⟨by decide, by decide⟩ d_X10_times_21 ?_
        exact j_iret d_X10_times_22 rfl rfl ⟨rfl, rfl⟩
set_option maxHeartbeats 4000000 in
set_option maxRecDepth 100000 in
theorem c_X10_times (G : tp_G) (a0 : Int) (a1 : Int) (a2 : Int) (M0 : tp_M) (r : Int × tp_M) (h : f_X10_times a0 a1 a2 M0 = some r) (l : Launch) : Met l y_X10_times (tp_ws y_X10_times i_X10_times) (tp_rm 2) (tp_Pc G [.inr (.inr 0), .inl a0, .inl a1, .inl a2] tp_NC (tp_st M0)) (tp_Q G (o_X10_times r)) 0 0 (tp_A G) :=
  tp_met (I := i_X10_times) (y := y_X10_times) (by decide +kernel) (Eq.refl "TypesAtPrime") (Eq.refl "times") (lv := [some (.inr (.inr 0)), some (.inl a0), some (.inl a1), some (.inl a2), none, none, none, none]) rfl (Nat.le_of_ble_eq_true rfl) (T_X10_times G a0 a1 a2 M0) h l
def y_X10_isLongProduct : MethodName := ⟨"TypesAtPrime", "isLongProduct", "(JI)Z"⟩
abbrev i_X10_isLongProduct : tp_I := (prog_1_method_41_code, "TypesAtPrime", (some .boolean), 3, "isLongProduct")
abbrev o_X10_isLongProduct (M : tp_M) : Int → tp_O := fun r => (some (.inl r), tp_NC, tp_st M)
theorem d_X10_isLongProduct_0 : decode prog_1_method_41_code 0 = .ok (.iload_n 2, 1) := by decide +kernel
theorem d_X10_isLongProduct_1 : decode prog_1_method_41_code 1 = .ok (.ifCond .ne 5, 3) := by decide +kernel
theorem d_X10_isLongProduct_4 : decode prog_1_method_41_code 4 = .ok (.iconst 1, 1) := by decide +kernel
theorem d_X10_isLongProduct_5 : decode prog_1_method_41_code 5 = .ok (.ireturn, 1) := by decide +kernel
theorem d_X10_isLongProduct_6 : decode prog_1_method_41_code 6 = .ok (.iload_n 2, 1) := by decide +kernel
theorem d_X10_isLongProduct_7 : decode prog_1_method_41_code 7 = .ok (.iconst (-1), 1) := by decide +kernel
theorem d_X10_isLongProduct_8 : decode prog_1_method_41_code 8 = .ok (.if_icmp .ne 17, 3) := by decide +kernel
theorem d_X10_isLongProduct_11 : decode prog_1_method_41_code 11 = .ok (.lload_n 0, 1) := by decide +kernel
theorem d_X10_isLongProduct_12 : decode prog_1_method_41_code 12 = .ok (.ldc2_w 113, 3) := by decide +kernel
theorem d_X10_isLongProduct_15 : decode prog_1_method_41_code 15 = .ok (.lcmp, 1) := by decide +kernel
theorem d_X10_isLongProduct_16 : decode prog_1_method_41_code 16 = .ok (.ifCond .eq 7, 3) := by decide +kernel
theorem d_X10_isLongProduct_19 : decode prog_1_method_41_code 19 = .ok (.iconst 1, 1) := by decide +kernel
theorem d_X10_isLongProduct_20 : decode prog_1_method_41_code 20 = .ok (.goto 4, 3) := by decide +kernel
theorem d_X10_isLongProduct_23 : decode prog_1_method_41_code 23 = .ok (.iconst 0, 1) := by decide +kernel
theorem d_X10_isLongProduct_24 : decode prog_1_method_41_code 24 = .ok (.ireturn, 1) := by decide +kernel
theorem d_X10_isLongProduct_25 : decode prog_1_method_41_code 25 = .ok (.lload_n 0, 1) := by decide +kernel
theorem d_X10_isLongProduct_26 : decode prog_1_method_41_code 26 = .ok (.iload_n 2, 1) := by decide +kernel
theorem d_X10_isLongProduct_27 : decode prog_1_method_41_code 27 = .ok (.i2l, 1) := by decide +kernel
theorem d_X10_isLongProduct_28 : decode prog_1_method_41_code 28 = .ok (.lmul, 1) := by decide +kernel
theorem d_X10_isLongProduct_29 : decode prog_1_method_41_code 29 = .ok (.iload_n 2, 1) := by decide +kernel
theorem d_X10_isLongProduct_30 : decode prog_1_method_41_code 30 = .ok (.i2l, 1) := by decide +kernel
theorem d_X10_isLongProduct_31 : decode prog_1_method_41_code 31 = .ok (.ldiv, 1) := by decide +kernel
theorem d_X10_isLongProduct_32 : decode prog_1_method_41_code 32 = .ok (.lload_n 0, 1) := by decide +kernel
theorem d_X10_isLongProduct_33 : decode prog_1_method_41_code 33 = .ok (.lcmp, 1) := by decide +kernel
theorem d_X10_isLongProduct_34 : decode prog_1_method_41_code 34 = .ok (.ifCond .ne 7, 3) := by decide +kernel
theorem d_X10_isLongProduct_37 : decode prog_1_method_41_code 37 = .ok (.iconst 1, 1) := by decide +kernel
theorem d_X10_isLongProduct_38 : decode prog_1_method_41_code 38 = .ok (.goto 4, 3) := by decide +kernel
theorem d_X10_isLongProduct_41 : decode prog_1_method_41_code 41 = .ok (.iconst 0, 1) := by decide +kernel
theorem d_X10_isLongProduct_42 : decode prog_1_method_41_code 42 = .ok (.ireturn, 1) := by decide +kernel
def f_X10_isLongProduct (a0 : Int) (a1 : Int) (M0 : tp_M) : Option (Int) :=
  if ¬ a1 = 0 then
    if ¬ a1 = (-1) then
      if a1 = 0 then none else
        if ¬ (tp_wl (Int.tdiv (tp_wl (a0 * a1)) a1)) = a0 then
          some 0
        else
          some 1
    else
      if a0 = (-9223372036854775808) then
        some 0
      else
        some 1
  else
    some 1
set_option maxHeartbeats 4000000 in
set_option maxRecDepth 100000 in
theorem T_X10_isLongProduct (G : tp_G) (a0 : Int) (a1 : Int) (M0 : tp_M) : tp_J i_X10_isLongProduct (tp_rm 0) G 0 0 (o_X10_isLongProduct M0) tp_NC (tp_st M0) 0 0 [some (.inr (.inl a0)), none, some (.inl a1)] 0 [] (f_X10_isLongProduct a0 a1 M0) := by
  unfold f_X10_isLongProduct
  refine j_iload_n rfl d_X10_isLongProduct_0 rfl ?_
  refine j_if_ne (tgt := 6) d_X10_isLongProduct_1 (by decide) (fun h1 => ?_) (fun h1 => ?_)
  · refine j_iload_n rfl d_X10_isLongProduct_6 rfl ?_
    refine j_iconst ⟨by decide, by decide⟩ d_X10_isLongProduct_7 ?_
    refine j_icmp_ne (tgt := 25) d_X10_isLongProduct_8 (by decide) (fun h2 => ?_) (fun h2 => ?_)
    · refine j_lload_n rfl d_X10_isLongProduct_25 rfl ?_
      refine j_iload_n rfl d_X10_isLongProduct_26 rfl ?_
      refine j_i2l d_X10_isLongProduct_27 ?_
      refine j_lmul d_X10_isLongProduct_28 ?_
      refine j_iload_n rfl d_X10_isLongProduct_29 rfl ?_
      refine j_i2l d_X10_isLongProduct_30 ?_
      refine j_ldiv d_X10_isLongProduct_31 ?_
      refine j_lload_n rfl d_X10_isLongProduct_32 rfl ?_
      refine j_lcmp_ne (tgt := 41) d_X10_isLongProduct_33 rfl d_X10_isLongProduct_34 (by decide) (fun h3 => ?_) (fun h3 => ?_)
      · refine j_iconst ⟨by decide, by decide⟩ d_X10_isLongProduct_41 ?_
        exact j_zret d_X10_isLongProduct_42 rfl (Or.inl rfl) rfl ⟨rfl, rfl⟩
      · refine j_iconst ⟨by decide, by decide⟩ d_X10_isLongProduct_37 ?_
        refine j_goto (tgt := 42) d_X10_isLongProduct_38 (by decide) ?_
        exact j_zret d_X10_isLongProduct_42 rfl (Or.inr rfl) rfl ⟨rfl, rfl⟩
    · refine j_lload_n rfl d_X10_isLongProduct_11 rfl ?_
      refine j_ldc2 (x := (-9223372036854775808)) ⟨by decide, by decide⟩ (show Cond.constantLong _ _ _ ∈ lw_tbl from wd_526) d_X10_isLongProduct_12 ?_
      refine j_lcmp_eq (tgt := 23) d_X10_isLongProduct_15 rfl d_X10_isLongProduct_16 (by decide) (fun h4 => ?_) (fun h4 => ?_)
      · refine j_iconst ⟨by decide, by decide⟩ d_X10_isLongProduct_23 ?_
        exact j_zret d_X10_isLongProduct_24 rfl (Or.inl rfl) rfl ⟨rfl, rfl⟩
      · refine j_iconst ⟨by decide, by decide⟩ d_X10_isLongProduct_19 ?_
        refine j_goto (tgt := 24) d_X10_isLongProduct_20 (by decide) ?_
        exact j_zret d_X10_isLongProduct_24 rfl (Or.inr rfl) rfl ⟨rfl, rfl⟩
  · refine j_iconst ⟨by decide, by decide⟩ d_X10_isLongProduct_4 ?_
    exact j_zret d_X10_isLongProduct_5 rfl (Or.inr rfl) rfl ⟨rfl, rfl⟩
set_option maxHeartbeats 4000000 in
set_option maxRecDepth 100000 in
theorem c_X10_isLongProduct (G : tp_G) (a0 : Int) (a1 : Int) (M0 : tp_M) (r : Int) (h : f_X10_isLongProduct a0 a1 M0 = some r) (l : Launch) : Met l y_X10_isLongProduct (tp_ws y_X10_isLongProduct i_X10_isLongProduct) (tp_rm 0) (tp_Pc G [.inr (.inl a0), .inl a1] tp_NC (tp_st M0)) (tp_Q G ((o_X10_isLongProduct M0) r)) 0 0 (tp_A G) :=
  tp_met (I := i_X10_isLongProduct) (y := y_X10_isLongProduct) (by decide +kernel) (Eq.refl "TypesAtPrime") (Eq.refl "isLongProduct") (lv := [some (.inr (.inl a0)), none, some (.inl a1)]) rfl (Nat.le_of_ble_eq_true rfl) (T_X10_isLongProduct G a0 a1 M0) h l
theorem wd_556 : (.code ⟨"TypesAtPrime", "isLongProduct", "(JI)Z"⟩ prog_1_method_41_code 3 (some .boolean) : Cond) ∈ lw_tbl := List.mem_append_right _ (List.mem_of_getElem? (i := 556) (by decide +kernel))
theorem cs_Main_128 : tp_CS "TypesAtPrime" 128 y_X10_isLongProduct i_X10_isLongProduct 2 := ⟨wd_556, wd_1, by decide, by decide, by decide +kernel⟩
theorem wd_554 : (.methodLink "TypesAtPrime" 128 ⟨"TypesAtPrime", "isLongProduct", "(JI)Z"⟩ : Cond) ∈ lw_tbl := List.mem_append_right _ (List.mem_of_getElem? (i := 554) (by decide +kernel))
theorem wd_555 : (.static ⟨"TypesAtPrime", "isLongProduct", "(JI)Z"⟩ : Cond) ∈ lw_tbl := List.mem_append_right _ (List.mem_of_getElem? (i := 555) (by decide +kernel))
def y_X10_worth : MethodName := ⟨"TypesAtPrime", "worth", "(II)J"⟩
abbrev i_X10_worth : tp_I := (prog_1_method_11_code, "TypesAtPrime", (some .long), 8, "worth")
abbrev o_X10_worth (M : tp_M) : Int → tp_O := fun r => (some (.inr (.inl r)), tp_NC, tp_st M)
theorem d_X10_worth_0 : decode prog_1_method_11_code 0 = .ok (.iload_n 1, 1) := by decide +kernel
theorem d_X10_worth_1 : decode prog_1_method_11_code 1 = .ok (.invokestatic 89, 3) := by decide +kernel
theorem d_X10_worth_4 : decode prog_1_method_11_code 4 = .ok (.ifCond .ne 7, 3) := by decide +kernel
theorem d_X10_worth_7 : decode prog_1_method_11_code 7 = .ok (.ldc2_w 113, 3) := by decide +kernel
theorem d_X10_worth_10 : decode prog_1_method_11_code 10 = .ok (.lreturn, 1) := by decide +kernel
theorem d_X10_worth_11 : decode prog_1_method_11_code 11 = .ok (.lconst 0, 1) := by decide +kernel
theorem d_X10_worth_12 : decode prog_1_method_11_code 12 = .ok (.lstore_n 3, 1) := by decide +kernel
theorem d_X10_worth_13 : decode prog_1_method_11_code 13 = .ok (.bipush 8, 2) := by decide +kernel
theorem d_X10_worth_15 : decode prog_1_method_11_code 15 = .ok (.istore 5, 2) := by decide +kernel
theorem d_X10_worth_17 : decode prog_1_method_11_code 17 = .ok (.iload 5, 2) := by decide +kernel
theorem d_X10_worth_19 : decode prog_1_method_11_code 19 = .ok (.ifCond .lt 67, 3) := by decide +kernel
theorem d_X10_worth_22 : decode prog_1_method_11_code 22 = .ok (.lload_n 3, 1) := by decide +kernel
theorem d_X10_worth_23 : decode prog_1_method_11_code 23 = .ok (.iload_n 2, 1) := by decide +kernel
theorem d_X10_worth_24 : decode prog_1_method_11_code 24 = .ok (.invokestatic 128, 3) := by decide +kernel
theorem d_X10_worth_27 : decode prog_1_method_11_code 27 = .ok (.ifCond .ne 7, 3) := by decide +kernel
theorem d_X10_worth_30 : decode prog_1_method_11_code 30 = .ok (.ldc2_w 113, 3) := by decide +kernel
theorem d_X10_worth_33 : decode prog_1_method_11_code 33 = .ok (.lreturn, 1) := by decide +kernel
theorem d_X10_worth_34 : decode prog_1_method_11_code 34 = .ok (.lload_n 3, 1) := by decide +kernel
theorem d_X10_worth_35 : decode prog_1_method_11_code 35 = .ok (.iload_n 2, 1) := by decide +kernel
theorem d_X10_worth_36 : decode prog_1_method_11_code 36 = .ok (.i2l, 1) := by decide +kernel
theorem d_X10_worth_37 : decode prog_1_method_11_code 37 = .ok (.lmul, 1) := by decide +kernel
theorem d_X10_worth_38 : decode prog_1_method_11_code 38 = .ok (.lstore 6, 2) := by decide +kernel
theorem d_X10_worth_40 : decode prog_1_method_11_code 40 = .ok (.lload 6, 2) := by decide +kernel
theorem d_X10_worth_42 : decode prog_1_method_11_code 42 = .ok (.aload_n 0, 1) := by decide +kernel
theorem d_X10_worth_43 : decode prog_1_method_11_code 43 = .ok (.getfield 24, 3) := by decide +kernel
theorem d_X10_worth_46 : decode prog_1_method_11_code 46 = .ok (.iload_n 1, 1) := by decide +kernel
theorem d_X10_worth_47 : decode prog_1_method_11_code 47 = .ok (.aaload, 1) := by decide +kernel
theorem d_X10_worth_48 : decode prog_1_method_11_code 48 = .ok (.iload 5, 2) := by decide +kernel
theorem d_X10_worth_50 : decode prog_1_method_11_code 50 = .ok (.iaload, 1) := by decide +kernel
theorem d_X10_worth_51 : decode prog_1_method_11_code 51 = .ok (.i2l, 1) := by decide +kernel
theorem d_X10_worth_52 : decode prog_1_method_11_code 52 = .ok (.ladd, 1) := by decide +kernel
theorem d_X10_worth_53 : decode prog_1_method_11_code 53 = .ok (.lstore_n 3, 1) := by decide +kernel
theorem d_X10_worth_54 : decode prog_1_method_11_code 54 = .ok (.lload 6, 2) := by decide +kernel
theorem d_X10_worth_56 : decode prog_1_method_11_code 56 = .ok (.lload_n 3, 1) := by decide +kernel
theorem d_X10_worth_57 : decode prog_1_method_11_code 57 = .ok (.lxor, 1) := by decide +kernel
theorem d_X10_worth_58 : decode prog_1_method_11_code 58 = .ok (.aload_n 0, 1) := by decide +kernel
theorem d_X10_worth_59 : decode prog_1_method_11_code 59 = .ok (.getfield 24, 3) := by decide +kernel
theorem d_X10_worth_62 : decode prog_1_method_11_code 62 = .ok (.iload_n 1, 1) := by decide +kernel
theorem d_X10_worth_63 : decode prog_1_method_11_code 63 = .ok (.aaload, 1) := by decide +kernel
theorem d_X10_worth_64 : decode prog_1_method_11_code 64 = .ok (.iload 5, 2) := by decide +kernel
theorem d_X10_worth_66 : decode prog_1_method_11_code 66 = .ok (.iaload, 1) := by decide +kernel
theorem d_X10_worth_67 : decode prog_1_method_11_code 67 = .ok (.i2l, 1) := by decide +kernel
theorem d_X10_worth_68 : decode prog_1_method_11_code 68 = .ok (.lload_n 3, 1) := by decide +kernel
theorem d_X10_worth_69 : decode prog_1_method_11_code 69 = .ok (.lxor, 1) := by decide +kernel
theorem d_X10_worth_70 : decode prog_1_method_11_code 70 = .ok (.land, 1) := by decide +kernel
theorem d_X10_worth_71 : decode prog_1_method_11_code 71 = .ok (.lconst 0, 1) := by decide +kernel
theorem d_X10_worth_72 : decode prog_1_method_11_code 72 = .ok (.lcmp, 1) := by decide +kernel
theorem d_X10_worth_73 : decode prog_1_method_11_code 73 = .ok (.ifCond .ge 7, 3) := by decide +kernel
theorem d_X10_worth_76 : decode prog_1_method_11_code 76 = .ok (.ldc2_w 113, 3) := by decide +kernel
theorem d_X10_worth_79 : decode prog_1_method_11_code 79 = .ok (.lreturn, 1) := by decide +kernel
theorem d_X10_worth_80 : decode prog_1_method_11_code 80 = .ok (.iinc 5 (-1), 3) := by decide +kernel
theorem d_X10_worth_83 : decode prog_1_method_11_code 83 = .ok (.goto (-66), 3) := by decide +kernel
theorem d_X10_worth_86 : decode prog_1_method_11_code 86 = .ok (.lload_n 3, 1) := by decide +kernel
theorem d_X10_worth_87 : decode prog_1_method_11_code 87 = .ok (.lreturn, 1) := by decide +kernel
def f_X10_worth_17B (x1 : Int) (x2 : Int) (M0 : tp_M) (rec_17 : Int → Int → Option (Int)) (x3 : Int) (x5 : Int) : Option (Int) :=
  if x5 < 0 then
    some x3
  else
    (f_X10_isLongProduct x3 x2 M0).bind fun r5 =>
    if ¬ r5 = 0 then
      tp_lt ((tp_wl (x3 * x2))) fun y8 =>
      if 0 ≤ x1 ∧ x1 < 5 then
        if 0 ≤ x5 ∧ x5 < 9 then
          tp_lt ((tp_wl (y8 + (M0 (4 + x1) x5)))) fun y10 =>
          if 0 ≤ x1 ∧ x1 < 5 then
            if 0 ≤ x5 ∧ x5 < 9 then
              if 0 ≤ (tp_land (tp_lxor y8 y10) (tp_lxor (M0 (4 + x1) x5) y10)) then
                tp_lt (tp_w (x5 + (-1))) fun y13 =>
                rec_17 y10 y13
              else
                some (-9223372036854775808) else none else none else none else none
    else
      some (-9223372036854775808)
set_option maxHeartbeats 4000000 in
set_option maxRecDepth 100000 in
theorem T_X10_worth_17B (G : tp_G) (x1 : Int) (x2 : Int) (M0 : tp_M) (rec_17 : Int → Int → Option (Int)) (hrec_17 : ∀ (x3' x5' : Int), tp_J i_X10_worth (tp_rm 1) G 0 0 (o_X10_worth M0) tp_NC (tp_st M0) 0 0 [some (.inr (.inr 0)), some (.inl x1), some (.inl x2), some (.inr (.inl (x3'))), none, some (.inl (x5')), none, none] 17 [] (rec_17 x3' x5')) (x3 : Int) (x5 : Int) : tp_J i_X10_worth (tp_rm 1) G 0 0 (o_X10_worth M0) tp_NC (tp_st M0) 0 0 [some (.inr (.inr 0)), some (.inl x1), some (.inl x2), some (.inr (.inl x3)), none, some (.inl x5), none, none] 17 [] (f_X10_worth_17B x1 x2 M0 rec_17 x3 x5) := by
  unfold f_X10_worth_17B
  refine j_iload d_X10_worth_17 rfl ?_
  refine j_if_lt (tgt := 86) d_X10_worth_19 (by decide) (fun h4 => ?_) (fun h4 => ?_)
  · refine j_lload_n rfl d_X10_worth_86 rfl ?_
    exact j_lret d_X10_worth_87 rfl rfl ⟨rfl, rfl⟩
  · refine j_lload_n rfl d_X10_worth_22 rfl ?_
    refine j_iload_n rfl d_X10_worth_23 rfl ?_
    refine j_bind (fun r5 h6 => ?_)
    refine j_callS (y := y_X10_isLongProduct) (I' := i_X10_isLongProduct) (avs := [.inr (.inl x3), .inl x2]) (st := []) (c_X10_isLongProduct G x3 x2 M0 r5 h6) cs_Main_128 wd_554 wd_555 rfl rfl (Nat.le_of_ble_eq_true rfl) ⟨rfl, rfl⟩ ⟨by decide, by decide⟩ ⟨by decide, by decide⟩ d_X10_worth_24 ?_
    refine j_if_ne (tgt := 34) d_X10_worth_27 (by decide) (fun h7 => ?_) (fun h7 => ?_)
    · refine j_lload_n rfl d_X10_worth_34 rfl ?_
      refine j_iload_n rfl d_X10_worth_35 rfl ?_
      refine j_i2l d_X10_worth_36 ?_
      refine j_lmul d_X10_worth_37 ?_
      refine j_nmL (fun y8 hy8 => ?_)
      refine j_lstore (lv' := [some (.inr (.inr 0)), some (.inl x1), some (.inl x2), some (.inr (.inl x3)), none, some (.inl x5), some (.inr (.inl y8)), none]) d_X10_worth_38 (Nat.le_of_ble_eq_true rfl) rfl ?_
      refine j_lload d_X10_worth_40 rfl ?_
      refine j_aload_n rfl d_X10_worth_42 rfl ?_
      refine j_getr fl_Main_24 tg_0 rv_0_3 d_X10_worth_43 ?_
      refine j_iload_n rfl d_X10_worth_46 rfl ?_
      refine j_aald (v := (4 + x1)) (ty := (.array .int)) tg_3 (by decide) al_3 (by decide) rfl d_X10_worth_47 (fun h1 h2 => (aa_3 _ h1 h2).1) (fun hi9 => ?_)
      refine j_iload d_X10_worth_48 rfl ?_
      refine j_iald ((aa_3 _ hi9.1 hi9.2).2.1) ((aa_3 _ hi9.1 hi9.2).2.2) d_X10_worth_50 ?_
      refine j_i2l d_X10_worth_51 ?_
      refine j_ladd d_X10_worth_52 ?_
      refine j_nmL (fun y10 hy10 => ?_)
      refine j_lstore_n (lv' := [some (.inr (.inr 0)), some (.inl x1), some (.inl x2), some (.inr (.inl y10)), none, some (.inl x5), some (.inr (.inl y8)), none]) rfl d_X10_worth_53 (Nat.le_of_ble_eq_true rfl) rfl ?_
      refine j_lload d_X10_worth_54 rfl ?_
      refine j_lload_n rfl d_X10_worth_56 rfl ?_
      refine j_lxor d_X10_worth_57 ?_
      refine j_aload_n rfl d_X10_worth_58 rfl ?_
      refine j_getr fl_Main_24 tg_0 rv_0_3 d_X10_worth_59 ?_
      refine j_iload_n rfl d_X10_worth_62 rfl ?_
      refine j_aald (v := (4 + x1)) (ty := (.array .int)) tg_3 (by decide) al_3 (by decide) rfl d_X10_worth_63 (fun h1 h2 => (aa_3 _ h1 h2).1) (fun hi11 => ?_)
      refine j_iload d_X10_worth_64 rfl ?_
      refine j_iald ((aa_3 _ hi11.1 hi11.2).2.1) ((aa_3 _ hi11.1 hi11.2).2.2) d_X10_worth_66 ?_
      refine j_i2l d_X10_worth_67 ?_
      refine j_lload_n rfl d_X10_worth_68 rfl ?_
      refine j_lxor d_X10_worth_69 ?_
      refine j_land d_X10_worth_70 ?_
      refine j_lconst (x := 0) ⟨by decide, by decide⟩ (by decide +kernel) d_X10_worth_71 ?_
      refine j_lcmp_ge (tgt := 80) d_X10_worth_72 rfl d_X10_worth_73 (by decide) (fun h12 => ?_) (fun h12 => ?_)
      · refine j_iincN (lv' := fun y13 => [some (.inr (.inr 0)), some (.inl x1), some (.inl x2), some (.inr (.inl y10)), none, some (.inl y13), some (.inr (.inl y8)), none]) d_X10_worth_80 rfl (Nat.le_of_ble_eq_true rfl) (fun _ => rfl) (fun y13 hy13 => ?_)
        refine j_goto (tgt := 17) d_X10_worth_83 (by decide) ?_
        exact j_wk [true, true, true, true, false, true, false, false] rfl rfl (hrec_17 y10 y13)
      · refine j_ldc2 (x := (-9223372036854775808)) ⟨by decide, by decide⟩ (show Cond.constantLong _ _ _ ∈ lw_tbl from wd_526) d_X10_worth_76 ?_
        exact j_lret d_X10_worth_79 rfl rfl ⟨rfl, rfl⟩
    · refine j_ldc2 (x := (-9223372036854775808)) ⟨by decide, by decide⟩ (show Cond.constantLong _ _ _ ∈ lw_tbl from wd_526) d_X10_worth_30 ?_
      exact j_lret d_X10_worth_33 rfl rfl ⟨rfl, rfl⟩
def f_X10_worth_17 (x1 : Int) (x2 : Int) (x3 : Int) (x5 : Int) (M0 : tp_M) : Option (Int) := tp_lp (σ := Int × Int) (fun rec_ u => f_X10_worth_17B x1 x2 M0 (fun x3' x5' => rec_ (x3', x5')) u.1 u.2) tp_N (x3, x5)
set_option maxHeartbeats 4000000 in
set_option maxRecDepth 100000 in
theorem T_X10_worth_17 (G : tp_G) (x1 : Int) (x2 : Int) (x3 : Int) (x5 : Int) (M0 : tp_M) : tp_J i_X10_worth (tp_rm 1) G 0 0 (o_X10_worth M0) tp_NC (tp_st M0) 0 0 [some (.inr (.inr 0)), some (.inl x1), some (.inl x2), some (.inr (.inl x3)), none, some (.inl x5), none, none] 17 [] (f_X10_worth_17 x1 x2 x3 x5 M0) := by
  unfold f_X10_worth_17
  exact j_lp (σ := Int × Int) (n' := fun _ => tp_NC) (g' := fun u => tp_st M0) (k' := fun _ => 0) (q' := fun _ => 0) (lv' := fun u => [some (.inr (.inr 0)), some (.inl x1), some (.inl x2), some (.inr (.inl u.1)), none, some (.inl u.2), none, none]) (fun rec_ hrec u => T_X10_worth_17B G x1 x2 M0 (fun x3' x5' => rec_ (x3', x5')) (fun x3' x5' => hrec (x3', x5')) u.1 u.2) tp_N (x3, x5)
def f_X10_worth (a0 : Int) (a1 : Int) (M0 : tp_M) : Option (Int) :=
  (f_X10_isSlot a0 M0).bind fun r1 =>
  if ¬ r1 = 0 then
    f_X10_worth_17 a0 a1 0 8 M0
  else
    some (-9223372036854775808)
set_option maxHeartbeats 4000000 in
set_option maxRecDepth 100000 in
theorem T_X10_worth (G : tp_G) (a0 : Int) (a1 : Int) (M0 : tp_M) : tp_J i_X10_worth (tp_rm 1) G 0 0 (o_X10_worth M0) tp_NC (tp_st M0) 0 0 [some (.inr (.inr 0)), some (.inl a0), some (.inl a1), none, none, none, none, none] 0 [] (f_X10_worth a0 a1 M0) := by
  unfold f_X10_worth
  refine j_iload_n rfl d_X10_worth_0 rfl ?_
  refine j_bind (fun r1 h2 => ?_)
  refine j_callS (y := y_X10_isSlot) (I' := i_X10_isSlot) (avs := [.inl a0]) (st := []) (c_X10_isSlot G a0 M0 r1 h2) cs_Main_89 wd_474 wd_475 rfl rfl (Nat.le_of_ble_eq_true rfl) ⟨rfl, rfl⟩ ⟨by decide, by decide⟩ ⟨by decide, by decide⟩ d_X10_worth_1 ?_
  refine j_if_ne (tgt := 11) d_X10_worth_4 (by decide) (fun h3 => ?_) (fun h3 => ?_)
  · refine j_lconst (x := 0) ⟨by decide, by decide⟩ (by decide +kernel) d_X10_worth_11 ?_
    refine j_lstore_n (lv' := [some (.inr (.inr 0)), some (.inl a0), some (.inl a1), some (.inr (.inl 0)), none, none, none, none]) rfl d_X10_worth_12 (Nat.le_of_ble_eq_true rfl) rfl ?_
    refine j_bipush ⟨by decide, by decide⟩ (by decide +kernel) d_X10_worth_13 ?_
    refine j_istore (lv' := [some (.inr (.inr 0)), some (.inl a0), some (.inl a1), some (.inr (.inl 0)), none, some (.inl 8), none, none]) d_X10_worth_15 (Nat.le_of_ble_eq_true rfl) rfl ?_
    exact j_wk [true, true, true, true, false, true, false, false] rfl rfl (T_X10_worth_17 G a0 a1 0 8 M0)
  · refine j_ldc2 (x := (-9223372036854775808)) ⟨by decide, by decide⟩ (show Cond.constantLong _ _ _ ∈ lw_tbl from wd_526) d_X10_worth_7 ?_
    exact j_lret d_X10_worth_10 rfl rfl ⟨rfl, rfl⟩
set_option maxHeartbeats 4000000 in
set_option maxRecDepth 100000 in
theorem c_X10_worth (G : tp_G) (a0 : Int) (a1 : Int) (M0 : tp_M) (r : Int) (h : f_X10_worth a0 a1 M0 = some r) (l : Launch) : Met l y_X10_worth (tp_ws y_X10_worth i_X10_worth) (tp_rm 1) (tp_Pc G [.inr (.inr 0), .inl a0, .inl a1] tp_NC (tp_st M0)) (tp_Q G ((o_X10_worth M0) r)) 0 0 (tp_A G) :=
  tp_met (I := i_X10_worth) (y := y_X10_worth) (by decide +kernel) (Eq.refl "TypesAtPrime") (Eq.refl "worth") (lv := [some (.inr (.inr 0)), some (.inl a0), some (.inl a1), none, none, none, none, none]) rfl (Nat.le_of_ble_eq_true rfl) (T_X10_worth G a0 a1 M0) h l
theorem wd_409 : (.fieldLink "TypesAtPrime" 12 "TypesAtPrime" "numbers" "LTypesAtPrime$Numbers;" : Cond) ∈ lw_tbl := List.mem_append_right _ (List.mem_of_getElem? (i := 409) (by decide +kernel))
theorem fl_Main_12 : tp_F "TypesAtPrime" 12 10 0 2 := ⟨_, _, _, rfl, by decide, rfl, wd_409, rfl, by decide⟩
theorem rv_0_0 : tp_rv 0 0 = 1 := by decide +kernel
theorem wd_418 : (.fieldLink "TypesAtPrime" 64 "TypesAtPrime" "expanded" "[J" : Cond) ∈ lw_tbl := List.mem_append_right _ (List.mem_of_getElem? (i := 418) (by decide +kernel))
theorem fl_Main_64 : tp_F "TypesAtPrime" 64 10 9 2 := ⟨_, _, _, rfl, by decide, rfl, wd_418, rfl, by decide⟩
theorem tg_480 : tp_tg 480 = 22 := by decide +kernel
theorem al_480 : tp_al 480 = 9 := by decide +kernel
theorem rv_0_9 : tp_rv 0 9 = 480 := by decide +kernel
theorem cs_Main_136 : tp_CS "TypesAtPrime" 136 y_X4_expand i_X4_expand 5 := ⟨wd_568, wd_2, by decide, by decide, by decide +kernel⟩
theorem wd_565 : (.methodLink "TypesAtPrime" 136 ⟨"TypesAtPrime$Numbers", "expand", "([JII[JI)V"⟩ : Cond) ∈ lw_tbl := List.mem_append_right _ (List.mem_of_getElem? (i := 565) (by decide +kernel))
theorem cs_Main_132 : tp_CS "TypesAtPrime" 132 y_X4_rest i_X4_rest 1 := ⟨wd_564, wd_2, by decide, by decide, by decide +kernel⟩
theorem wd_561 : (.methodLink "TypesAtPrime" 132 ⟨"TypesAtPrime$Numbers", "rest", "(J)J"⟩ : Cond) ∈ lw_tbl := List.mem_append_right _ (List.mem_of_getElem? (i := 561) (by decide +kernel))
def y_X10_expansion : MethodName := ⟨"TypesAtPrime", "expansion", "(IIII)J"⟩
abbrev i_X10_expansion : tp_I := (prog_1_method_12_code, "TypesAtPrime", (some .long), 8, "expansion")
abbrev o_X10_expansion : Int × tp_M → tp_O := fun r => (some (.inr (.inl r.1)), tp_NC, tp_st r.2)
theorem d_X10_expansion_0 : decode prog_1_method_12_code 0 = .ok (.iload_n 1, 1) := by decide +kernel
theorem d_X10_expansion_1 : decode prog_1_method_12_code 1 = .ok (.invokestatic 89, 3) := by decide +kernel
theorem d_X10_expansion_4 : decode prog_1_method_12_code 4 = .ok (.ifCond .eq 33, 3) := by decide +kernel
theorem d_X10_expansion_7 : decode prog_1_method_12_code 7 = .ok (.iload_n 2, 1) := by decide +kernel
theorem d_X10_expansion_8 : decode prog_1_method_12_code 8 = .ok (.invokestatic 89, 3) := by decide +kernel
theorem d_X10_expansion_11 : decode prog_1_method_12_code 11 = .ok (.ifCond .eq 26, 3) := by decide +kernel
theorem d_X10_expansion_14 : decode prog_1_method_12_code 14 = .ok (.iload_n 3, 1) := by decide +kernel
theorem d_X10_expansion_15 : decode prog_1_method_12_code 15 = .ok (.invokestatic 106, 3) := by decide +kernel
theorem d_X10_expansion_18 : decode prog_1_method_12_code 18 = .ok (.ifCond .eq 19, 3) := by decide +kernel
theorem d_X10_expansion_21 : decode prog_1_method_12_code 21 = .ok (.iload 4, 2) := by decide +kernel
theorem d_X10_expansion_23 : decode prog_1_method_12_code 23 = .ok (.invokestatic 106, 3) := by decide +kernel
theorem d_X10_expansion_26 : decode prog_1_method_12_code 26 = .ok (.ifCond .eq 11, 3) := by decide +kernel
theorem d_X10_expansion_29 : decode prog_1_method_12_code 29 = .ok (.aload_n 0, 1) := by decide +kernel
theorem d_X10_expansion_30 : decode prog_1_method_12_code 30 = .ok (.iload_n 2, 1) := by decide +kernel
theorem d_X10_expansion_31 : decode prog_1_method_12_code 31 = .ok (.invokevirtual 115, 3) := by decide +kernel
theorem d_X10_expansion_34 : decode prog_1_method_12_code 34 = .ok (.ifCond .ne 7, 3) := by decide +kernel
theorem d_X10_expansion_37 : decode prog_1_method_12_code 37 = .ok (.ldc2_w 113, 3) := by decide +kernel
theorem d_X10_expansion_40 : decode prog_1_method_12_code 40 = .ok (.lreturn, 1) := by decide +kernel
theorem d_X10_expansion_41 : decode prog_1_method_12_code 41 = .ok (.aload_n 0, 1) := by decide +kernel
theorem d_X10_expansion_42 : decode prog_1_method_12_code 42 = .ok (.getfield 24, 3) := by decide +kernel
theorem d_X10_expansion_45 : decode prog_1_method_12_code 45 = .ok (.iload_n 2, 1) := by decide +kernel
theorem d_X10_expansion_46 : decode prog_1_method_12_code 46 = .ok (.aaload, 1) := by decide +kernel
theorem d_X10_expansion_47 : decode prog_1_method_12_code 47 = .ok (.invokestatic 118, 3) := by decide +kernel
theorem d_X10_expansion_50 : decode prog_1_method_12_code 50 = .ok (.istore 5, 2) := by decide +kernel
theorem d_X10_expansion_52 : decode prog_1_method_12_code 52 = .ok (.iload_n 3, 1) := by decide +kernel
theorem d_X10_expansion_53 : decode prog_1_method_12_code 53 = .ok (.iload 5, 2) := by decide +kernel
theorem d_X10_expansion_55 : decode prog_1_method_12_code 55 = .ok (.imul, 1) := by decide +kernel
theorem d_X10_expansion_56 : decode prog_1_method_12_code 56 = .ok (.iload 4, 2) := by decide +kernel
theorem d_X10_expansion_58 : decode prog_1_method_12_code 58 = .ok (.iadd, 1) := by decide +kernel
theorem d_X10_expansion_59 : decode prog_1_method_12_code 59 = .ok (.istore 6, 2) := by decide +kernel
theorem d_X10_expansion_61 : decode prog_1_method_12_code 61 = .ok (.iload 4, 2) := by decide +kernel
theorem d_X10_expansion_63 : decode prog_1_method_12_code 63 = .ok (.iload 5, 2) := by decide +kernel
theorem d_X10_expansion_65 : decode prog_1_method_12_code 65 = .ok (.if_icmp .ge 10, 3) := by decide +kernel
theorem d_X10_expansion_68 : decode prog_1_method_12_code 68 = .ok (.iload 6, 2) := by decide +kernel
theorem d_X10_expansion_70 : decode prog_1_method_12_code 70 = .ok (.bipush 9, 2) := by decide +kernel
theorem d_X10_expansion_72 : decode prog_1_method_12_code 72 = .ok (.if_icmp .lt 5, 3) := by decide +kernel
theorem d_X10_expansion_75 : decode prog_1_method_12_code 75 = .ok (.lconst 0, 1) := by decide +kernel
theorem d_X10_expansion_76 : decode prog_1_method_12_code 76 = .ok (.lreturn, 1) := by decide +kernel
theorem d_X10_expansion_77 : decode prog_1_method_12_code 77 = .ok (.iconst 0, 1) := by decide +kernel
theorem d_X10_expansion_78 : decode prog_1_method_12_code 78 = .ok (.istore 7, 2) := by decide +kernel
theorem d_X10_expansion_80 : decode prog_1_method_12_code 80 = .ok (.iload 7, 2) := by decide +kernel
theorem d_X10_expansion_82 : decode prog_1_method_12_code 82 = .ok (.bipush 9, 2) := by decide +kernel
theorem d_X10_expansion_84 : decode prog_1_method_12_code 84 = .ok (.if_icmp .ge 57, 3) := by decide +kernel
theorem d_X10_expansion_87 : decode prog_1_method_12_code 87 = .ok (.aload_n 0, 1) := by decide +kernel
theorem d_X10_expansion_88 : decode prog_1_method_12_code 88 = .ok (.getfield 64, 3) := by decide +kernel
theorem d_X10_expansion_91 : decode prog_1_method_12_code 91 = .ok (.iload 7, 2) := by decide +kernel
theorem d_X10_expansion_93 : decode prog_1_method_12_code 93 = .ok (.aload_n 0, 1) := by decide +kernel
theorem d_X10_expansion_94 : decode prog_1_method_12_code 94 = .ok (.getfield 12, 3) := by decide +kernel
theorem d_X10_expansion_97 : decode prog_1_method_12_code 97 = .ok (.aload_n 0, 1) := by decide +kernel
theorem d_X10_expansion_98 : decode prog_1_method_12_code 98 = .ok (.getfield 24, 3) := by decide +kernel
theorem d_X10_expansion_101 : decode prog_1_method_12_code 101 = .ok (.iload_n 1, 1) := by decide +kernel
theorem d_X10_expansion_102 : decode prog_1_method_12_code 102 = .ok (.aaload, 1) := by decide +kernel
theorem d_X10_expansion_103 : decode prog_1_method_12_code 103 = .ok (.iload 7, 2) := by decide +kernel
theorem d_X10_expansion_105 : decode prog_1_method_12_code 105 = .ok (.iaload, 1) := by decide +kernel
theorem d_X10_expansion_106 : decode prog_1_method_12_code 106 = .ok (.i2l, 1) := by decide +kernel
theorem d_X10_expansion_107 : decode prog_1_method_12_code 107 = .ok (.invokevirtual 132, 3) := by decide +kernel
theorem d_X10_expansion_110 : decode prog_1_method_12_code 110 = .ok (.lastore, 1) := by decide +kernel
theorem d_X10_expansion_111 : decode prog_1_method_12_code 111 = .ok (.aload_n 0, 1) := by decide +kernel
theorem d_X10_expansion_112 : decode prog_1_method_12_code 112 = .ok (.getfield 68, 3) := by decide +kernel
theorem d_X10_expansion_115 : decode prog_1_method_12_code 115 = .ok (.iload 7, 2) := by decide +kernel
theorem d_X10_expansion_117 : decode prog_1_method_12_code 117 = .ok (.aload_n 0, 1) := by decide +kernel
theorem d_X10_expansion_118 : decode prog_1_method_12_code 118 = .ok (.getfield 12, 3) := by decide +kernel
theorem d_X10_expansion_121 : decode prog_1_method_12_code 121 = .ok (.aload_n 0, 1) := by decide +kernel
theorem d_X10_expansion_122 : decode prog_1_method_12_code 122 = .ok (.getfield 24, 3) := by decide +kernel
theorem d_X10_expansion_125 : decode prog_1_method_12_code 125 = .ok (.iload_n 2, 1) := by decide +kernel
theorem d_X10_expansion_126 : decode prog_1_method_12_code 126 = .ok (.aaload, 1) := by decide +kernel
theorem d_X10_expansion_127 : decode prog_1_method_12_code 127 = .ok (.iload 7, 2) := by decide +kernel
theorem d_X10_expansion_129 : decode prog_1_method_12_code 129 = .ok (.iaload, 1) := by decide +kernel
theorem d_X10_expansion_130 : decode prog_1_method_12_code 130 = .ok (.i2l, 1) := by decide +kernel
theorem d_X10_expansion_131 : decode prog_1_method_12_code 131 = .ok (.invokevirtual 132, 3) := by decide +kernel
theorem d_X10_expansion_134 : decode prog_1_method_12_code 134 = .ok (.lastore, 1) := by decide +kernel
theorem d_X10_expansion_135 : decode prog_1_method_12_code 135 = .ok (.iinc 7 1, 3) := by decide +kernel
theorem d_X10_expansion_138 : decode prog_1_method_12_code 138 = .ok (.goto (-58), 3) := by decide +kernel
theorem d_X10_expansion_141 : decode prog_1_method_12_code 141 = .ok (.aload_n 0, 1) := by decide +kernel
theorem d_X10_expansion_142 : decode prog_1_method_12_code 142 = .ok (.getfield 12, 3) := by decide +kernel
theorem d_X10_expansion_145 : decode prog_1_method_12_code 145 = .ok (.aload_n 0, 1) := by decide +kernel
theorem d_X10_expansion_146 : decode prog_1_method_12_code 146 = .ok (.getfield 64, 3) := by decide +kernel
theorem d_X10_expansion_149 : decode prog_1_method_12_code 149 = .ok (.iconst 0, 1) := by decide +kernel
theorem d_X10_expansion_150 : decode prog_1_method_12_code 150 = .ok (.bipush 9, 2) := by decide +kernel
theorem d_X10_expansion_152 : decode prog_1_method_12_code 152 = .ok (.aload_n 0, 1) := by decide +kernel
theorem d_X10_expansion_153 : decode prog_1_method_12_code 153 = .ok (.getfield 68, 3) := by decide +kernel
theorem d_X10_expansion_156 : decode prog_1_method_12_code 156 = .ok (.iload 5, 2) := by decide +kernel
theorem d_X10_expansion_158 : decode prog_1_method_12_code 158 = .ok (.invokevirtual 136, 3) := by decide +kernel
theorem d_X10_expansion_161 : decode prog_1_method_12_code 161 = .ok (.aload_n 0, 1) := by decide +kernel
theorem d_X10_expansion_162 : decode prog_1_method_12_code 162 = .ok (.getfield 64, 3) := by decide +kernel
theorem d_X10_expansion_165 : decode prog_1_method_12_code 165 = .ok (.iload 6, 2) := by decide +kernel
theorem d_X10_expansion_167 : decode prog_1_method_12_code 167 = .ok (.laload, 1) := by decide +kernel
theorem d_X10_expansion_168 : decode prog_1_method_12_code 168 = .ok (.lreturn, 1) := by decide +kernel
def f_X10_expansion_80B (x1 : Int) (x2 : Int) (x5 : Int) (x6 : Int) (rec_80 : Int → tp_M → Option (Int × tp_M)) (x7 : Int) (M0 : tp_M) : Option (Int × tp_M) :=
  if 9 ≤ x7 then
    (f_X4_expand 480 0 9 481 x5 M0).bind fun r23 =>
    if 0 ≤ x6 ∧ x6 < 9 then
      some ((r23 480 x6), r23) else none
  else
    if 0 ≤ x1 ∧ x1 < 5 then
      if 0 ≤ x7 ∧ x7 < 9 then
        (f_X4_rest (M0 (4 + x1) x7) M0).bind fun r26 =>
        if 0 ≤ x7 ∧ x7 < 9 then
          tp_mp (tp_up M0 480 x7 r26) fun M28 =>
          if 0 ≤ x2 ∧ x2 < 5 then
            if 0 ≤ x7 ∧ x7 < 9 then
              (f_X4_rest (M28 (4 + x2) x7) M28).bind fun r30 =>
              if 0 ≤ x7 ∧ x7 < 18 then
                tp_mp (tp_up M28 481 x7 r30) fun M32 =>
                tp_lt (tp_w (x7 + 1)) fun y33 =>
                rec_80 y33 M32 else none else none else none else none else none else none
set_option maxHeartbeats 4000000 in
set_option maxRecDepth 100000 in
theorem T_X10_expansion_80B (G : tp_G) (x1 : Int) (x2 : Int) (x5 : Int) (x6 : Int) (rec_80 : Int → tp_M → Option (Int × tp_M)) (hrec_80 : ∀ (x7' : Int) (M' : tp_M), tp_J i_X10_expansion (tp_rm 2) G 0 0 o_X10_expansion tp_NC (tp_st M') 0 0 [some (.inr (.inr 0)), some (.inl x1), some (.inl x2), none, none, some (.inl x5), some (.inl x6), some (.inl (x7'))] 80 [] (rec_80 x7' M')) (x7 : Int) (M0 : tp_M) : tp_J i_X10_expansion (tp_rm 2) G 0 0 o_X10_expansion tp_NC (tp_st M0) 0 0 [some (.inr (.inr 0)), some (.inl x1), some (.inl x2), none, none, some (.inl x5), some (.inl x6), some (.inl x7)] 80 [] (f_X10_expansion_80B x1 x2 x5 x6 rec_80 x7 M0) := by
  unfold f_X10_expansion_80B
  refine j_iload d_X10_expansion_80 rfl ?_
  refine j_bipush ⟨by decide, by decide⟩ (by decide +kernel) d_X10_expansion_82 ?_
  refine j_icmp_ge (tgt := 141) d_X10_expansion_84 (by decide) (fun h22 => ?_) (fun h22 => ?_)
  · refine j_aload_n rfl d_X10_expansion_141 rfl ?_
    refine j_getr fl_Main_12 tg_0 rv_0_0 d_X10_expansion_142 ?_
    refine j_aload_n rfl d_X10_expansion_145 rfl ?_
    refine j_getr fl_Main_64 tg_0 rv_0_9 d_X10_expansion_146 ?_
    refine j_iconst ⟨by decide, by decide⟩ d_X10_expansion_149 ?_
    refine j_bipush ⟨by decide, by decide⟩ (by decide +kernel) d_X10_expansion_150 ?_
    refine j_aload_n rfl d_X10_expansion_152 rfl ?_
    refine j_getr fl_Main_68 tg_0 rv_0_10 d_X10_expansion_153 ?_
    refine j_iload d_X10_expansion_156 rfl ?_
    refine j_bind (fun r23 h24 => ?_)
    refine j_callV (y := y_X4_expand) (I' := i_X4_expand) (avs := [.inr (.inr 480), .inl 0, .inl 9, .inr (.inr 481), .inl x5]) (c := 1) (st := []) (c_X4_expand G 480 0 9 481 x5 M0 r23 h24) cs_Main_136 wd_565 wd_566 wd_567 tg_1 rfl rfl rfl (Nat.le_of_ble_eq_true rfl) ⟨rfl, rfl⟩ ⟨by decide, by decide⟩ ⟨by decide, by decide⟩ d_X10_expansion_158 ?_
    refine j_aload_n rfl d_X10_expansion_161 rfl ?_
    refine j_getr fl_Main_64 tg_0 rv_0_9 d_X10_expansion_162 ?_
    refine j_iload d_X10_expansion_165 rfl ?_
    refine j_lald tg_480 al_480 d_X10_expansion_167 ?_
    exact j_lret d_X10_expansion_168 rfl rfl ⟨rfl, rfl⟩
  · refine j_aload_n rfl d_X10_expansion_87 rfl ?_
    refine j_getr fl_Main_64 tg_0 rv_0_9 d_X10_expansion_88 ?_
    refine j_iload d_X10_expansion_91 rfl ?_
    refine j_aload_n rfl d_X10_expansion_93 rfl ?_
    refine j_getr fl_Main_12 tg_0 rv_0_0 d_X10_expansion_94 ?_
    refine j_aload_n rfl d_X10_expansion_97 rfl ?_
    refine j_getr fl_Main_24 tg_0 rv_0_3 d_X10_expansion_98 ?_
    refine j_iload_n rfl d_X10_expansion_101 rfl ?_
    refine j_aald (v := (4 + x1)) (ty := (.array .int)) tg_3 (by decide) al_3 (by decide) rfl d_X10_expansion_102 (fun h1 h2 => (aa_3 _ h1 h2).1) (fun hi25 => ?_)
    refine j_iload d_X10_expansion_103 rfl ?_
    refine j_iald ((aa_3 _ hi25.1 hi25.2).2.1) ((aa_3 _ hi25.1 hi25.2).2.2) d_X10_expansion_105 ?_
    refine j_i2l d_X10_expansion_106 ?_
    refine j_bind (fun r26 h27 => ?_)
    refine j_callV (y := y_X4_rest) (I' := i_X4_rest) (avs := [.inr (.inl (M0 (4 + x1) x7))]) (c := 1) (st := [.inl x7, .inr (.inr 480)]) (c_X4_rest G (M0 (4 + x1) x7) M0 r26 h27) cs_Main_132 wd_561 wd_562 wd_563 tg_1 rfl rfl rfl (Nat.le_of_ble_eq_true rfl) ⟨rfl, rfl⟩ ⟨by decide, by decide⟩ ⟨by decide, by decide⟩ d_X10_expansion_107 ?_
    refine j_last tg_480 al_480 d_X10_expansion_110 (fun M28 hM28 => ?_)
    refine j_aload_n rfl d_X10_expansion_111 rfl ?_
    refine j_getr fl_Main_68 tg_0 rv_0_10 d_X10_expansion_112 ?_
    refine j_iload d_X10_expansion_115 rfl ?_
    refine j_aload_n rfl d_X10_expansion_117 rfl ?_
    refine j_getr fl_Main_12 tg_0 rv_0_0 d_X10_expansion_118 ?_
    refine j_aload_n rfl d_X10_expansion_121 rfl ?_
    refine j_getr fl_Main_24 tg_0 rv_0_3 d_X10_expansion_122 ?_
    refine j_iload_n rfl d_X10_expansion_125 rfl ?_
    refine j_aald (v := (4 + x2)) (ty := (.array .int)) tg_3 (by decide) al_3 (by decide) rfl d_X10_expansion_126 (fun h1 h2 => (aa_3 _ h1 h2).1) (fun hi29 => ?_)
    refine j_iload d_X10_expansion_127 rfl ?_
    refine j_iald ((aa_3 _ hi29.1 hi29.2).2.1) ((aa_3 _ hi29.1 hi29.2).2.2) d_X10_expansion_129 ?_
    refine j_i2l d_X10_expansion_130 ?_
    refine j_bind (fun r30 h31 => ?_)
    refine j_callV (y := y_X4_rest) (I' := i_X4_rest) (avs := [.inr (.inl (M28 (4 + x2) x7))]) (c := 1) (st := [.inl x7, .inr (.inr 481)]) (c_X4_rest G (M28 (4 + x2) x7) M28 r30 h31) cs_Main_132 wd_561 wd_562 wd_563 tg_1 rfl rfl rfl (Nat.le_of_ble_eq_true rfl) ⟨rfl, rfl⟩ ⟨by decide, by decide⟩ ⟨by decide, by decide⟩ d_X10_expansion_131 ?_
    refine j_last tg_481 al_481 d_X10_expansion_134 (fun M32 hM32 => ?_)
    refine j_iincN (lv' := fun y33 => [some (.inr (.inr 0)), some (.inl x1), some (.inl x2), none, none, some (.inl x5), some (.inl x6), some (.inl y33)]) d_X10_expansion_135 rfl (Nat.le_of_ble_eq_true rfl) (fun _ => rfl) (fun y33 hy33 => ?_)
    refine j_goto (tgt := 80) d_X10_expansion_138 (by decide) ?_
    exact j_wk [true, true, true, false, false, true, true, true] rfl rfl (hrec_80 y33 M32)
def f_X10_expansion_80 (x1 : Int) (x2 : Int) (x5 : Int) (x6 : Int) (x7 : Int) (M0 : tp_M) : Option (Int × tp_M) := tp_lp (σ := Int × tp_M) (fun rec_ u => f_X10_expansion_80B x1 x2 x5 x6 (fun x7' M0' => rec_ (x7', M0')) u.1 u.2) tp_N (x7, M0)
set_option maxHeartbeats 4000000 in
set_option maxRecDepth 100000 in
theorem T_X10_expansion_80 (G : tp_G) (x1 : Int) (x2 : Int) (x5 : Int) (x6 : Int) (x7 : Int) (M0 : tp_M) : tp_J i_X10_expansion (tp_rm 2) G 0 0 o_X10_expansion tp_NC (tp_st M0) 0 0 [some (.inr (.inr 0)), some (.inl x1), some (.inl x2), none, none, some (.inl x5), some (.inl x6), some (.inl x7)] 80 [] (f_X10_expansion_80 x1 x2 x5 x6 x7 M0) := by
  unfold f_X10_expansion_80
  exact j_lp (σ := Int × tp_M) (n' := fun _ => tp_NC) (g' := fun u => tp_st u.2) (k' := fun _ => 0) (q' := fun _ => 0) (lv' := fun u => [some (.inr (.inr 0)), some (.inl x1), some (.inl x2), none, none, some (.inl x5), some (.inl x6), some (.inl u.1)]) (fun rec_ hrec u => T_X10_expansion_80B G x1 x2 x5 x6 (fun x7' M0' => rec_ (x7', M0')) (fun x7' M0' => hrec (x7', M0')) u.1 u.2) tp_N (x7, M0)
def f_X10_expansion (a0 : Int) (a1 : Int) (a2 : Int) (a3 : Int) (M0 : tp_M) : Option (Int × tp_M) :=
  (f_X10_isSlot a0 M0).bind fun r1 =>
  if r1 = 0 then
    some ((-9223372036854775808), M0)
  else
    (f_X10_isSlot a1 M0).bind fun r4 =>
    if r4 = 0 then
      some ((-9223372036854775808), M0)
    else
      (f_X10_isPower a2 M0).bind fun r7 =>
      if r7 = 0 then
        some ((-9223372036854775808), M0)
      else
        (f_X10_isPower a3 M0).bind fun r10 =>
        if r10 = 0 then
          some ((-9223372036854775808), M0)
        else
          (f_X10_isMonic a1 M0).bind fun r13 =>
          if ¬ r13 = 0 then
            if 0 ≤ a1 ∧ a1 < 5 then
              (f_X10_degreeOf (4 + a1) M0).bind fun r17 =>
              tp_lt ((tp_w ((tp_w (a2 * r17)) + a3))) fun y19 =>
              if r17 ≤ a3 then
                some (0, M0)
              else
                if y19 < 9 then
                  f_X10_expansion_80 a0 a1 r17 y19 0 M0
                else
                  some (0, M0) else none
          else
            some ((-9223372036854775808), M0)
set_option maxHeartbeats 4000000 in
set_option maxRecDepth 100000 in
theorem T_X10_expansion (G : tp_G) (a0 : Int) (a1 : Int) (a2 : Int) (a3 : Int) (M0 : tp_M) : tp_J i_X10_expansion (tp_rm 2) G 0 0 o_X10_expansion tp_NC (tp_st M0) 0 0 [some (.inr (.inr 0)), some (.inl a0), some (.inl a1), some (.inl a2), some (.inl a3), none, none, none] 0 [] (f_X10_expansion a0 a1 a2 a3 M0) := by
  unfold f_X10_expansion
  refine j_iload_n rfl d_X10_expansion_0 rfl ?_
  refine j_bind (fun r1 h2 => ?_)
  refine j_callS (y := y_X10_isSlot) (I' := i_X10_isSlot) (avs := [.inl a0]) (st := []) (c_X10_isSlot G a0 M0 r1 h2) cs_Main_89 wd_474 wd_475 rfl rfl (Nat.le_of_ble_eq_true rfl) ⟨rfl, rfl⟩ ⟨by decide, by decide⟩ ⟨by decide, by decide⟩ d_X10_expansion_1 ?_
  refine j_if_eq (tgt := 37) d_X10_expansion_4 (by decide) (fun h3 => ?_) (fun h3 => ?_)
  · refine j_ldc2 (x := (-9223372036854775808)) ⟨by decide, by decide⟩ (show Cond.constantLong _ _ _ ∈ lw_tbl from wd_526) d_X10_expansion_37 ?_
    exact j_lret d_X10_expansion_40 rfl rfl ⟨rfl, rfl⟩
  · refine j_iload_n rfl d_X10_expansion_7 rfl ?_
    refine j_bind (fun r4 h5 => ?_)
    refine j_callS (y := y_X10_isSlot) (I' := i_X10_isSlot) (avs := [.inl a1]) (st := []) (c_X10_isSlot G a1 M0 r4 h5) cs_Main_89 wd_474 wd_475 rfl rfl (Nat.le_of_ble_eq_true rfl) ⟨rfl, rfl⟩ ⟨by decide, by decide⟩ ⟨by decide, by decide⟩ d_X10_expansion_8 ?_
    refine j_if_eq (tgt := 37) d_X10_expansion_11 (by decide) (fun h6 => ?_) (fun h6 => ?_)
    · refine j_ldc2 (x := (-9223372036854775808)) ⟨by decide, by decide⟩ (show Cond.constantLong _ _ _ ∈ lw_tbl from wd_526) d_X10_expansion_37 ?_
      exact j_lret d_X10_expansion_40 rfl rfl ⟨rfl, rfl⟩
    · refine j_iload_n rfl d_X10_expansion_14 rfl ?_
      refine j_bind (fun r7 h8 => ?_)
      refine j_callS (y := y_X10_isPower) (I' := i_X10_isPower) (avs := [.inl a2]) (st := []) (c_X10_isPower G a2 M0 r7 h8) cs_Main_106 wd_523 wd_524 rfl rfl (Nat.le_of_ble_eq_true rfl) ⟨rfl, rfl⟩ ⟨by decide, by decide⟩ ⟨by decide, by decide⟩ d_X10_expansion_15 ?_
      refine j_if_eq (tgt := 37) d_X10_expansion_18 (by decide) (fun h9 => ?_) (fun h9 => ?_)
      · refine j_ldc2 (x := (-9223372036854775808)) ⟨by decide, by decide⟩ (show Cond.constantLong _ _ _ ∈ lw_tbl from wd_526) d_X10_expansion_37 ?_
        exact j_lret d_X10_expansion_40 rfl rfl ⟨rfl, rfl⟩
      · refine j_iload d_X10_expansion_21 rfl ?_
        refine j_bind (fun r10 h11 => ?_)
        refine j_callS (y := y_X10_isPower) (I' := i_X10_isPower) (avs := [.inl a3]) (st := []) (c_X10_isPower G a3 M0 r10 h11) cs_Main_106 wd_523 wd_524 rfl rfl (Nat.le_of_ble_eq_true rfl) ⟨rfl, rfl⟩ ⟨by decide, by decide⟩ ⟨by decide, by decide⟩ d_X10_expansion_23 ?_
        refine j_if_eq (tgt := 37) d_X10_expansion_26 (by decide) (fun h12 => ?_) (fun h12 => ?_)
        · refine j_ldc2 (x := (-9223372036854775808)) ⟨by decide, by decide⟩ (show Cond.constantLong _ _ _ ∈ lw_tbl from wd_526) d_X10_expansion_37 ?_
          exact j_lret d_X10_expansion_40 rfl rfl ⟨rfl, rfl⟩
        · refine j_aload_n rfl d_X10_expansion_29 rfl ?_
          refine j_iload_n rfl d_X10_expansion_30 rfl ?_
          refine j_bind (fun r13 h14 => ?_)
          refine j_callV (y := y_X10_isMonic) (I' := i_X10_isMonic) (avs := [.inl a1]) (c := 0) (st := []) (c_X10_isMonic G a1 M0 r13 h14) cs_Main_115 wd_535 wd_537 ws_6 tg_0 rfl rfl rfl (Nat.le_of_ble_eq_true rfl) ⟨rfl, rfl⟩ ⟨by decide, by decide⟩ ⟨by decide, by decide⟩ d_X10_expansion_31 ?_
          refine j_if_ne (tgt := 41) d_X10_expansion_34 (by decide) (fun h15 => ?_) (fun h15 => ?_)
          · refine j_aload_n rfl d_X10_expansion_41 rfl ?_
            refine j_getr fl_Main_24 tg_0 rv_0_3 d_X10_expansion_42 ?_
            refine j_iload_n rfl d_X10_expansion_45 rfl ?_
            refine j_aald (v := (4 + a1)) (ty := (.array .int)) tg_3 (by decide) al_3 (by decide) rfl d_X10_expansion_46 (fun h1 h2 => (aa_3 _ h1 h2).1) (fun hi16 => ?_)
            refine j_bind (fun r17 h18 => ?_)
            refine j_callS (y := y_X10_degreeOf) (I' := i_X10_degreeOf) (avs := [.inr (.inr (4 + a1))]) (st := []) (c_X10_degreeOf G (4 + a1) M0 r17 h18) cs_Main_118 wd_516 wd_517 rfl rfl (Nat.le_of_ble_eq_true rfl) ⟨rfl, rfl⟩ ⟨by decide, by decide⟩ ⟨by decide, by decide⟩ d_X10_expansion_47 ?_
            refine j_istore (lv' := [some (.inr (.inr 0)), some (.inl a0), some (.inl a1), some (.inl a2), some (.inl a3), some (.inl r17), none, none]) d_X10_expansion_50 (Nat.le_of_ble_eq_true rfl) rfl ?_
            refine j_iload_n rfl d_X10_expansion_52 rfl ?_
            refine j_iload d_X10_expansion_53 rfl ?_
            refine j_imul d_X10_expansion_55 ?_
            refine j_iload d_X10_expansion_56 rfl ?_
            refine j_iadd d_X10_expansion_58 ?_
            refine j_nmI (fun y19 hy19 => ?_)
            refine j_istore (lv' := [some (.inr (.inr 0)), some (.inl a0), some (.inl a1), some (.inl a2), some (.inl a3), some (.inl r17), some (.inl y19), none]) d_X10_expansion_59 (Nat.le_of_ble_eq_true rfl) rfl ?_
            refine j_iload d_X10_expansion_61 rfl ?_
            refine j_iload d_X10_expansion_63 rfl ?_
            refine j_icmp_ge (tgt := 75) d_X10_expansion_65 (by decide) (fun h20 => ?_) (fun h20 => ?_)
            · refine j_lconst (x := 0) ⟨by decide, by decide⟩ (by decide +kernel) d_X10_expansion_75 ?_
              exact j_lret d_X10_expansion_76 rfl rfl ⟨rfl, rfl⟩
            · refine j_iload d_X10_expansion_68 rfl ?_
              refine j_bipush ⟨by decide, by decide⟩ (by decide +kernel) d_X10_expansion_70 ?_
              refine j_icmp_lt (tgt := 77) d_X10_expansion_72 (by decide) (fun h21 => ?_) (fun h21 => ?_)
              · refine j_iconst ⟨by decide, by decide⟩ d_X10_expansion_77 ?_
                refine j_istore (lv' := [some (.inr (.inr 0)), some (.inl a0), some (.inl a1), some (.inl a2), some (.inl a3), some (.inl r17), some (.inl y19), some (.inl 0)]) d_X10_expansion_78 (Nat.le_of_ble_eq_true rfl) rfl ?_
                exact j_wk [true, true, true, false, false, true, true, true] rfl rfl (T_X10_expansion_80 G a0 a1 r17 y19 0 M0)
              · refine j_lconst (x := 0) ⟨by decide, by decide⟩ (by decide +kernel) d_X10_expansion_75 ?_
                exact j_lret d_X10_expansion_76 rfl rfl ⟨rfl, rfl⟩
          · refine j_ldc2 (x := (-9223372036854775808)) ⟨by decide, by decide⟩ (show Cond.constantLong _ _ _ ∈ lw_tbl from wd_526) d_X10_expansion_37 ?_
            exact j_lret d_X10_expansion_40 rfl rfl ⟨rfl, rfl⟩
set_option maxHeartbeats 4000000 in
set_option maxRecDepth 100000 in
theorem c_X10_expansion (G : tp_G) (a0 : Int) (a1 : Int) (a2 : Int) (a3 : Int) (M0 : tp_M) (r : Int × tp_M) (h : f_X10_expansion a0 a1 a2 a3 M0 = some r) (l : Launch) : Met l y_X10_expansion (tp_ws y_X10_expansion i_X10_expansion) (tp_rm 2) (tp_Pc G [.inr (.inr 0), .inl a0, .inl a1, .inl a2, .inl a3] tp_NC (tp_st M0)) (tp_Q G (o_X10_expansion r)) 0 0 (tp_A G) :=
  tp_met (I := i_X10_expansion) (y := y_X10_expansion) (by decide +kernel) (Eq.refl "TypesAtPrime") (Eq.refl "expansion") (lv := [some (.inr (.inr 0)), some (.inl a0), some (.inl a1), some (.inl a2), some (.inl a3), none, none, none]) rfl (Nat.le_of_ble_eq_true rfl) (T_X10_expansion G a0 a1 a2 a3 M0) h l
theorem wd_415 : (.fieldLink "TypesAtPrime" 44 "TypesAtPrime" "factors" "LTypesAtPrime$Factors;" : Cond) ∈ lw_tbl := List.mem_append_right _ (List.mem_of_getElem? (i := 415) (by decide +kernel))
theorem fl_Main_44 : tp_F "TypesAtPrime" 44 10 6 2 := ⟨_, _, _, rfl, by decide, rfl, wd_415, rfl, by decide⟩
theorem tg_20 : tp_tg 20 = 0 := by decide +kernel
theorem rv_0_6 : tp_rv 0 6 = 20 := by decide +kernel
theorem wd_36 : (.fieldLink "TypesAtPrime" 75 "TypesAtPrime$Numbers" "prime" "I" : Cond) ∈ lw_tbl := List.mem_append_right _ (List.mem_of_getElem? (i := 36) (by decide +kernel))
theorem fl_Main_75 : tp_F "TypesAtPrime" 75 4 0 0 := ⟨_, _, _, rfl, by decide, rfl, wd_36, rfl, by decide⟩
theorem wd_577 : (.code ⟨"TypesAtPrime$Factors", "find", "([II)Z"⟩ prog_2_method_2_code 4 (some .boolean) : Cond) ∈ lw_tbl := List.mem_append_right _ (List.mem_of_getElem? (i := 577) (by decide +kernel))
theorem cs_Main_140 : tp_CS "TypesAtPrime" 140 y_X0_find i_X0_find 2 := ⟨wd_577, wd_5, by decide, by decide, by decide +kernel⟩
theorem wd_574 : (.methodLink "TypesAtPrime" 140 ⟨"TypesAtPrime$Factors", "find", "([II)Z"⟩ : Cond) ∈ lw_tbl := List.mem_append_right _ (List.mem_of_getElem? (i := 574) (by decide +kernel))
theorem wd_575 : (.instanceMethod ⟨"TypesAtPrime$Factors", "find", "([II)Z"⟩ : Cond) ∈ lw_tbl := List.mem_append_right _ (List.mem_of_getElem? (i := 575) (by decide +kernel))
theorem wd_576 : (.selects "TypesAtPrime$Factors" ⟨"TypesAtPrime$Factors", "find", "([II)Z"⟩ ⟨"TypesAtPrime$Factors", "find", "([II)Z"⟩ : Cond) ∈ lw_tbl := List.mem_append_right _ (List.mem_of_getElem? (i := 576) (by decide +kernel))
theorem wd_101 : (.fieldLink "TypesAtPrime" 144 "TypesAtPrime$Factors" "count" "I" : Cond) ∈ lw_tbl := List.mem_append_right _ (List.mem_of_getElem? (i := 101) (by decide +kernel))
theorem fl_Main_144 : tp_F "TypesAtPrime" 144 0 0 0 := ⟨_, _, _, rfl, by decide, rfl, wd_101, rfl, by decide⟩
theorem wd_110 : (.fieldLink "TypesAtPrime" 153 "TypesAtPrime$Factors" "rows" "[[I" : Cond) ∈ lw_tbl := List.mem_append_right _ (List.mem_of_getElem? (i := 110) (by decide +kernel))
theorem fl_Main_153 : tp_F "TypesAtPrime" 153 0 3 2 := ⟨_, _, _, rfl, by decide, rfl, wd_110, rfl, by decide⟩
theorem tg_23 : tp_tg 23 = 23 := by decide +kernel
theorem al_23 : tp_al 23 = 9 := by decide +kernel
theorem rv_20_3 : tp_rv 20 3 = 23 := by decide +kernel
theorem aa_23 : ∀ i : Int, 0 ≤ i → i < 9 → tp_rv 23 i.toNat = (24 + i) ∧ tp_tg (24 + i) = 21 ∧ tp_al (24 + i) = 9 := by
  intro i h0 h1
  have h : (List.range 9).all (fun j => decide (tp_rv 23 j = (24 + (j : Int)) ∧ tp_tg (24 + (j : Int)) = 21 ∧ tp_al (24 + (j : Int)) = 9)) = true := by decide +kernel
  have h3 := of_decide_eq_true (List.all_eq_true.mp h i.toNat (List.mem_range.mpr (by omega)))
  have h4 : ((i.toNat : Nat) : Int) = i := by omega
  rw [h4] at h3
  exact h3
theorem wd_104 : (.fieldLink "TypesAtPrime" 150 "TypesAtPrime$Factors" "degrees" "[I" : Cond) ∈ lw_tbl := List.mem_append_right _ (List.mem_of_getElem? (i := 104) (by decide +kernel))
theorem fl_Main_150 : tp_F "TypesAtPrime" 150 0 1 2 := ⟨_, _, _, rfl, by decide, rfl, wd_104, rfl, by decide⟩
theorem tg_21 : tp_tg 21 = 21 := by decide +kernel
theorem al_21 : tp_al 21 = 9 := by decide +kernel
theorem rv_20_1 : tp_rv 20 1 = 21 := by decide +kernel
theorem wd_107 : (.fieldLink "TypesAtPrime" 147 "TypesAtPrime$Factors" "times" "[I" : Cond) ∈ lw_tbl := List.mem_append_right _ (List.mem_of_getElem? (i := 107) (by decide +kernel))
theorem fl_Main_147 : tp_F "TypesAtPrime" 147 0 2 2 := ⟨_, _, _, rfl, by decide, rfl, wd_107, rfl, by decide⟩
theorem tg_22 : tp_tg 22 = 21 := by decide +kernel
theorem al_22 : tp_al 22 = 9 := by decide +kernel
theorem rv_20_2 : tp_rv 20 2 = 22 := by decide +kernel
def y_X10_factor : MethodName := ⟨"TypesAtPrime", "factor", "(III)J"⟩
abbrev i_X10_factor : tp_I := (prog_1_method_13_code, "TypesAtPrime", (some .long), 4, "factor")
abbrev o_X10_factor : Int × tp_M → tp_O := fun r => (some (.inr (.inl r.1)), tp_NC, tp_st r.2)
theorem d_X10_factor_0 : decode prog_1_method_13_code 0 = .ok (.iload_n 1, 1) := by decide +kernel
theorem d_X10_factor_1 : decode prog_1_method_13_code 1 = .ok (.invokestatic 89, 3) := by decide +kernel
theorem d_X10_factor_4 : decode prog_1_method_13_code 4 = .ok (.ifCond .eq 15, 3) := by decide +kernel
theorem d_X10_factor_7 : decode prog_1_method_13_code 7 = .ok (.iload_n 3, 1) := by decide +kernel
theorem d_X10_factor_8 : decode prog_1_method_13_code 8 = .ok (.bipush (-3), 2) := by decide +kernel
theorem d_X10_factor_10 : decode prog_1_method_13_code 10 = .ok (.if_icmp .lt 9, 3) := by decide +kernel
theorem d_X10_factor_13 : decode prog_1_method_13_code 13 = .ok (.iload_n 3, 1) := by decide +kernel
theorem d_X10_factor_14 : decode prog_1_method_13_code 14 = .ok (.bipush 9, 2) := by decide +kernel
theorem d_X10_factor_16 : decode prog_1_method_13_code 16 = .ok (.if_icmp .lt 7, 3) := by decide +kernel
theorem d_X10_factor_19 : decode prog_1_method_13_code 19 = .ok (.ldc2_w 113, 3) := by decide +kernel
theorem d_X10_factor_22 : decode prog_1_method_13_code 22 = .ok (.lreturn, 1) := by decide +kernel
theorem d_X10_factor_23 : decode prog_1_method_13_code 23 = .ok (.aload_n 0, 1) := by decide +kernel
theorem d_X10_factor_24 : decode prog_1_method_13_code 24 = .ok (.getfield 44, 3) := by decide +kernel
theorem d_X10_factor_27 : decode prog_1_method_13_code 27 = .ok (.aload_n 0, 1) := by decide +kernel
theorem d_X10_factor_28 : decode prog_1_method_13_code 28 = .ok (.getfield 24, 3) := by decide +kernel
theorem d_X10_factor_31 : decode prog_1_method_13_code 31 = .ok (.iload_n 1, 1) := by decide +kernel
theorem d_X10_factor_32 : decode prog_1_method_13_code 32 = .ok (.aaload, 1) := by decide +kernel
theorem d_X10_factor_33 : decode prog_1_method_13_code 33 = .ok (.aload_n 0, 1) := by decide +kernel
theorem d_X10_factor_34 : decode prog_1_method_13_code 34 = .ok (.getfield 12, 3) := by decide +kernel
theorem d_X10_factor_37 : decode prog_1_method_13_code 37 = .ok (.getfield 75, 3) := by decide +kernel
theorem d_X10_factor_40 : decode prog_1_method_13_code 40 = .ok (.invokevirtual 140, 3) := by decide +kernel
theorem d_X10_factor_43 : decode prog_1_method_13_code 43 = .ok (.ifCond .ne 7, 3) := by decide +kernel
theorem d_X10_factor_46 : decode prog_1_method_13_code 46 = .ok (.ldc2_w 113, 3) := by decide +kernel
theorem d_X10_factor_49 : decode prog_1_method_13_code 49 = .ok (.lreturn, 1) := by decide +kernel
theorem d_X10_factor_50 : decode prog_1_method_13_code 50 = .ok (.iload_n 3, 1) := by decide +kernel
theorem d_X10_factor_51 : decode prog_1_method_13_code 51 = .ok (.iconst (-1), 1) := by decide +kernel
theorem d_X10_factor_52 : decode prog_1_method_13_code 52 = .ok (.if_icmp .ne 12, 3) := by decide +kernel
theorem d_X10_factor_55 : decode prog_1_method_13_code 55 = .ok (.aload_n 0, 1) := by decide +kernel
theorem d_X10_factor_56 : decode prog_1_method_13_code 56 = .ok (.getfield 44, 3) := by decide +kernel
theorem d_X10_factor_59 : decode prog_1_method_13_code 59 = .ok (.getfield 144, 3) := by decide +kernel
theorem d_X10_factor_62 : decode prog_1_method_13_code 62 = .ok (.i2l, 1) := by decide +kernel
theorem d_X10_factor_63 : decode prog_1_method_13_code 63 = .ok (.lreturn, 1) := by decide +kernel
theorem d_X10_factor_64 : decode prog_1_method_13_code 64 = .ok (.iload_n 2, 1) := by decide +kernel
theorem d_X10_factor_65 : decode prog_1_method_13_code 65 = .ok (.ifCond .lt 20, 3) := by decide +kernel
theorem d_X10_factor_68 : decode prog_1_method_13_code 68 = .ok (.iload_n 2, 1) := by decide +kernel
theorem d_X10_factor_69 : decode prog_1_method_13_code 69 = .ok (.aload_n 0, 1) := by decide +kernel
theorem d_X10_factor_70 : decode prog_1_method_13_code 70 = .ok (.getfield 44, 3) := by decide +kernel
theorem d_X10_factor_73 : decode prog_1_method_13_code 73 = .ok (.getfield 144, 3) := by decide +kernel
theorem d_X10_factor_76 : decode prog_1_method_13_code 76 = .ok (.if_icmp .ge 9, 3) := by decide +kernel
theorem d_X10_factor_79 : decode prog_1_method_13_code 79 = .ok (.iload_n 2, 1) := by decide +kernel
theorem d_X10_factor_80 : decode prog_1_method_13_code 80 = .ok (.bipush 9, 2) := by decide +kernel
theorem d_X10_factor_82 : decode prog_1_method_13_code 82 = .ok (.if_icmp .lt 7, 3) := by decide +kernel
theorem d_X10_factor_85 : decode prog_1_method_13_code 85 = .ok (.ldc2_w 113, 3) := by decide +kernel
theorem d_X10_factor_88 : decode prog_1_method_13_code 88 = .ok (.lreturn, 1) := by decide +kernel
theorem d_X10_factor_89 : decode prog_1_method_13_code 89 = .ok (.iload_n 3, 1) := by decide +kernel
theorem d_X10_factor_90 : decode prog_1_method_13_code 90 = .ok (.bipush (-2), 2) := by decide +kernel
theorem d_X10_factor_92 : decode prog_1_method_13_code 92 = .ok (.if_icmp .ne 14, 3) := by decide +kernel
theorem d_X10_factor_95 : decode prog_1_method_13_code 95 = .ok (.aload_n 0, 1) := by decide +kernel
theorem d_X10_factor_96 : decode prog_1_method_13_code 96 = .ok (.getfield 44, 3) := by decide +kernel
theorem d_X10_factor_99 : decode prog_1_method_13_code 99 = .ok (.getfield 147, 3) := by decide +kernel
theorem d_X10_factor_102 : decode prog_1_method_13_code 102 = .ok (.iload_n 2, 1) := by decide +kernel
theorem d_X10_factor_103 : decode prog_1_method_13_code 103 = .ok (.iaload, 1) := by decide +kernel
theorem d_X10_factor_104 : decode prog_1_method_13_code 104 = .ok (.i2l, 1) := by decide +kernel
theorem d_X10_factor_105 : decode prog_1_method_13_code 105 = .ok (.lreturn, 1) := by decide +kernel
theorem d_X10_factor_106 : decode prog_1_method_13_code 106 = .ok (.iload_n 3, 1) := by decide +kernel
theorem d_X10_factor_107 : decode prog_1_method_13_code 107 = .ok (.bipush (-3), 2) := by decide +kernel
theorem d_X10_factor_109 : decode prog_1_method_13_code 109 = .ok (.if_icmp .ne 14, 3) := by decide +kernel
theorem d_X10_factor_112 : decode prog_1_method_13_code 112 = .ok (.aload_n 0, 1) := by decide +kernel
theorem d_X10_factor_113 : decode prog_1_method_13_code 113 = .ok (.getfield 44, 3) := by decide +kernel
theorem d_X10_factor_116 : decode prog_1_method_13_code 116 = .ok (.getfield 150, 3) := by decide +kernel
theorem d_X10_factor_119 : decode prog_1_method_13_code 119 = .ok (.iload_n 2, 1) := by decide +kernel
theorem d_X10_factor_120 : decode prog_1_method_13_code 120 = .ok (.iaload, 1) := by decide +kernel
theorem d_X10_factor_121 : decode prog_1_method_13_code 121 = .ok (.i2l, 1) := by decide +kernel
theorem d_X10_factor_122 : decode prog_1_method_13_code 122 = .ok (.lreturn, 1) := by decide +kernel
theorem d_X10_factor_123 : decode prog_1_method_13_code 123 = .ok (.aload_n 0, 1) := by decide +kernel
theorem d_X10_factor_124 : decode prog_1_method_13_code 124 = .ok (.getfield 44, 3) := by decide +kernel
theorem d_X10_factor_127 : decode prog_1_method_13_code 127 = .ok (.getfield 153, 3) := by decide +kernel
theorem d_X10_factor_130 : decode prog_1_method_13_code 130 = .ok (.iload_n 2, 1) := by decide +kernel
theorem d_X10_factor_131 : decode prog_1_method_13_code 131 = .ok (.aaload, 1) := by decide +kernel
theorem d_X10_factor_132 : decode prog_1_method_13_code 132 = .ok (.iload_n 3, 1) := by decide +kernel
theorem d_X10_factor_133 : decode prog_1_method_13_code 133 = .ok (.iaload, 1) := by decide +kernel
theorem d_X10_factor_134 : decode prog_1_method_13_code 134 = .ok (.i2l, 1) := by decide +kernel
theorem d_X10_factor_135 : decode prog_1_method_13_code 135 = .ok (.lreturn, 1) := by decide +kernel
def f_X10_factor (a0 : Int) (a1 : Int) (a2 : Int) (M0 : tp_M) : Option (Int × tp_M) :=
  (f_X10_isSlot a0 M0).bind fun r1 =>
  if r1 = 0 then
    some ((-9223372036854775808), M0)
  else
    if a2 < (-3) then
      some ((-9223372036854775808), M0)
    else
      if a2 < 9 then
        if 0 ≤ a0 ∧ a0 < 5 then
          (f_X0_find 20 (4 + a0) (M0 1 0) M0).bind fun r7 =>
          if ¬ r7.1 = 0 then
            if ¬ a2 = (-1) then
              if a1 < 0 then
                some ((-9223372036854775808), r7.2)
              else
                if (r7.2 20 0) ≤ a1 then
                  some ((-9223372036854775808), r7.2)
                else
                  if a1 < 9 then
                    if ¬ a2 = (-2) then
                      if ¬ a2 = (-3) then
                        if 0 ≤ a1 ∧ a1 < 9 then
                          if 0 ≤ a2 ∧ a2 < 9 then
                            some ((r7.2 (24 + a1) a2), r7.2) else none else none
                      else
                        if 0 ≤ a1 ∧ a1 < 9 then
                          some ((r7.2 21 a1), r7.2) else none
                    else
                      if 0 ≤ a1 ∧ a1 < 9 then
                        some ((r7.2 22 a1), r7.2) else none
                  else
                    some ((-9223372036854775808), r7.2)
            else
              some ((r7.2 20 0), r7.2)
          else
            some ((-9223372036854775808), r7.2) else none
      else
        some ((-9223372036854775808), M0)
set_option maxHeartbeats 4000000 in
set_option maxRecDepth 100000 in
theorem T_X10_factor (G : tp_G) (a0 : Int) (a1 : Int) (a2 : Int) (M0 : tp_M) : tp_J i_X10_factor (tp_rm 5) G 0 0 o_X10_factor tp_NC (tp_st M0) 0 0 [some (.inr (.inr 0)), some (.inl a0), some (.inl a1), some (.inl a2)] 0 [] (f_X10_factor a0 a1 a2 M0) := by
  unfold f_X10_factor
  refine j_iload_n rfl d_X10_factor_0 rfl ?_
  refine j_bind (fun r1 h2 => ?_)
  refine j_callS (y := y_X10_isSlot) (I' := i_X10_isSlot) (avs := [.inl a0]) (st := []) (c_X10_isSlot G a0 M0 r1 h2) cs_Main_89 wd_474 wd_475 rfl rfl (Nat.le_of_ble_eq_true rfl) ⟨rfl, rfl⟩ ⟨by decide, by decide⟩ ⟨by decide, by decide⟩ d_X10_factor_1 ?_
  refine j_if_eq (tgt := 19) d_X10_factor_4 (by decide) (fun h3 => ?_) (fun h3 => ?_)
  · refine j_ldc2 (x := (-9223372036854775808)) ⟨by decide, by decide⟩ (show Cond.constantLong _ _ _ ∈ lw_tbl from wd_526) d_X10_factor_19 ?_
    exact j_lret d_X10_factor_22 rfl rfl ⟨rfl, rfl⟩
  · refine j_iload_n rfl d_X10_factor_7 rfl ?_
    refine j_bipush ⟨by decide, by decide⟩ (by decide +kernel) d_X10_factor_8 ?_
    refine j_icmp_lt (tgt := 19) d_X10_factor_10 (by decide) (fun h4 => ?_) (fun h4 => ?_)
    · refine j_ldc2 (x := (-9223372036854775808)) ⟨by decide, by decide⟩ (show Cond.constantLong _ _ _ ∈ lw_tbl from wd_526) d_X10_factor_19 ?_
      exact j_lret d_X10_factor_22 rfl rfl ⟨rfl, rfl⟩
    · refine j_iload_n rfl d_X10_factor_13 rfl ?_
      refine j_bipush ⟨by decide, by decide⟩ (by decide +kernel) d_X10_factor_14 ?_
      refine j_icmp_lt (tgt := 23) d_X10_factor_16 (by decide) (fun h5 => ?_) (fun h5 => ?_)
      · refine j_aload_n rfl d_X10_factor_23 rfl ?_
        refine j_getr fl_Main_44 tg_0 rv_0_6 d_X10_factor_24 ?_
        refine j_aload_n rfl d_X10_factor_27 rfl ?_
        refine j_getr fl_Main_24 tg_0 rv_0_3 d_X10_factor_28 ?_
        refine j_iload_n rfl d_X10_factor_31 rfl ?_
        refine j_aald (v := (4 + a0)) (ty := (.array .int)) tg_3 (by decide) al_3 (by decide) rfl d_X10_factor_32 (fun h1 h2 => (aa_3 _ h1 h2).1) (fun hi6 => ?_)
        refine j_aload_n rfl d_X10_factor_33 rfl ?_
        refine j_getr fl_Main_12 tg_0 rv_0_0 d_X10_factor_34 ?_
        refine j_geti fl_Main_75 tg_1 d_X10_factor_37 ?_
        refine j_bind (fun r7 h8 => ?_)
        refine j_callV (y := y_X0_find) (I' := i_X0_find) (avs := [.inr (.inr (4 + a0)), .inl (M0 1 0)]) (c := 20) (st := []) (c_X0_find G 20 (4 + a0) (M0 1 0) M0 r7 h8) cs_Main_140 wd_574 wd_575 wd_576 tg_20 rfl rfl rfl (Nat.le_of_ble_eq_true rfl) ⟨rfl, rfl⟩ ⟨by decide, by decide⟩ ⟨by decide, by decide⟩ d_X10_factor_40 ?_
        refine j_if_ne (tgt := 50) d_X10_factor_43 (by decide) (fun h9 => ?_) (fun h9 => ?_)
        · refine j_iload_n rfl d_X10_factor_50 rfl ?_
          refine j_iconst ⟨by decide, by decide⟩ d_X10_factor_51 ?_
          refine j_icmp_ne (tgt := 64) d_X10_factor_52 (by decide) (fun h10 => ?_) (fun h10 => ?_)
          · refine j_iload_n rfl d_X10_factor_64 rfl ?_
            refine j_if_lt (tgt := 85) d_X10_factor_65 (by decide) (fun h11 => ?_) (fun h11 => ?_)
            · refine j_ldc2 (x := (-9223372036854775808)) ⟨by decide, by decide⟩ (show Cond.constantLong _ _ _ ∈ lw_tbl from wd_526) d_X10_factor_85 ?_
              exact j_lret d_X10_factor_88 rfl rfl ⟨rfl, rfl⟩
            · refine j_iload_n rfl d_X10_factor_68 rfl ?_
              refine j_aload_n rfl d_X10_factor_69 rfl ?_
              refine j_getr fl_Main_44 tg_0 rv_0_6 d_X10_factor_70 ?_
              refine j_geti fl_Main_144 tg_20 d_X10_factor_73 ?_
              refine j_icmp_ge (tgt := 85) d_X10_factor_76 (by decide) (fun h12 => ?_) (fun h12 => ?_)
              · refine j_ldc2 (x := (-9223372036854775808)) ⟨by decide, by decide⟩ (show Cond.constantLong _ _ _ ∈ lw_tbl from wd_526) d_X10_factor_85 ?_
                exact j_lret d_X10_factor_88 rfl rfl ⟨rfl, rfl⟩
              · refine j_iload_n rfl d_X10_factor_79 rfl ?_
                refine j_bipush ⟨by decide, by decide⟩ (by decide +kernel) d_X10_factor_80 ?_
                refine j_icmp_lt (tgt := 89) d_X10_factor_82 (by decide) (fun h13 => ?_) (fun h13 => ?_)
                · refine j_iload_n rfl d_X10_factor_89 rfl ?_
                  refine j_bipush ⟨by decide, by decide⟩ (by decide +kernel) d_X10_factor_90 ?_
                  refine j_icmp_ne (tgt := 106) d_X10_factor_92 (by decide) (fun h14 => ?_) (fun h14 => ?_)
                  · refine j_iload_n rfl d_X10_factor_106 rfl ?_
                    refine j_bipush ⟨by decide, by decide⟩ (by decide +kernel) d_X10_factor_107 ?_
                    refine j_icmp_ne (tgt := 123) d_X10_factor_109 (by decide) (fun h15 => ?_) (fun h15 => ?_)
                    · refine j_aload_n rfl d_X10_factor_123 rfl ?_
                      refine j_getr fl_Main_44 tg_0 rv_0_6 d_X10_factor_124 ?_
                      refine j_getr fl_Main_153 tg_20 rv_20_3 d_X10_factor_127 ?_
                      refine j_iload_n rfl d_X10_factor_130 rfl ?_
                      refine j_aald (v := (24 + a1)) (ty := (.array .int)) tg_23 (by decide) al_23 (by decide) rfl d_X10_factor_131 (fun h1 h2 => (aa_23 _ h1 h2).1) (fun hi16 => ?_)
                      refine j_iload_n rfl d_X10_factor_132 rfl ?_
                      refine j_iald ((aa_23 _ hi16.1 hi16.2).2.1) ((aa_23 _ hi16.1 hi16.2).2.2) d_X10_factor_133 ?_
                      refine j_i2l d_X10_factor_134 ?_
                      exact j_lret d_X10_factor_135 rfl rfl ⟨rfl, rfl⟩
                    · refine j_aload_n rfl d_X10_factor_112 rfl ?_
                      refine j_getr fl_Main_44 tg_0 rv_0_6 d_X10_factor_113 ?_
                      refine j_getr fl_Main_150 tg_20 rv_20_1 d_X10_factor_116 ?_
                      refine j_iload_n rfl d_X10_factor_119 rfl ?_
                      refine j_iald tg_21 al_21 d_X10_factor_120 ?_
                      refine j_i2l d_X10_factor_121 ?_
                      exact j_lret d_X10_factor_122 rfl rfl ⟨rfl, rfl⟩
                  · refine j_aload_n rfl d_X10_factor_95 rfl ?_
                    refine j_getr fl_Main_44 tg_0 rv_0_6 d_X10_factor_96 ?_
                    refine j_getr fl_Main_147 tg_20 rv_20_2 d_X10_factor_99 ?_
                    refine j_iload_n rfl d_X10_factor_102 rfl ?_
                    refine j_iald tg_22 al_22 d_X10_factor_103 ?_
                    refine j_i2l d_X10_factor_104 ?_
                    exact j_lret d_X10_factor_105 rfl rfl ⟨rfl, rfl⟩
                · refine j_ldc2 (x := (-9223372036854775808)) ⟨by decide, by decide⟩ (show Cond.constantLong _ _ _ ∈ lw_tbl from wd_526) d_X10_factor_85 ?_
                  exact j_lret d_X10_factor_88 rfl rfl ⟨rfl, rfl⟩
          · refine j_aload_n rfl d_X10_factor_55 rfl ?_
            refine j_getr fl_Main_44 tg_0 rv_0_6 d_X10_factor_56 ?_
            refine j_geti fl_Main_144 tg_20 d_X10_factor_59 ?_
            refine j_i2l d_X10_factor_62 ?_
            exact j_lret d_X10_factor_63 rfl rfl ⟨rfl, rfl⟩
        · refine j_ldc2 (x := (-9223372036854775808)) ⟨by decide, by decide⟩ (show Cond.constantLong _ _ _ ∈ lw_tbl from wd_526) d_X10_factor_46 ?_
          exact j_lret d_X10_factor_49 rfl rfl ⟨rfl, rfl⟩
      · refine j_ldc2 (x := (-9223372036854775808)) ⟨by decide, by decide⟩ (show Cond.constantLong _ _ _ ∈ lw_tbl from wd_526) d_X10_factor_19 ?_
        exact j_lret d_X10_factor_22 rfl rfl ⟨rfl, rfl⟩
set_option maxHeartbeats 4000000 in
set_option maxRecDepth 100000 in
theorem c_X10_factor (G : tp_G) (a0 : Int) (a1 : Int) (a2 : Int) (M0 : tp_M) (r : Int × tp_M) (h : f_X10_factor a0 a1 a2 M0 = some r) (l : Launch) : Met l y_X10_factor (tp_ws y_X10_factor i_X10_factor) (tp_rm 5) (tp_Pc G [.inr (.inr 0), .inl a0, .inl a1, .inl a2] tp_NC (tp_st M0)) (tp_Q G (o_X10_factor r)) 0 0 (tp_A G) :=
  tp_met (I := i_X10_factor) (y := y_X10_factor) (by decide +kernel) (Eq.refl "TypesAtPrime") (Eq.refl "factor") (lv := [some (.inr (.inr 0)), some (.inl a0), some (.inl a1), some (.inl a2)]) rfl (Nat.le_of_ble_eq_true rfl) (T_X10_factor G a0 a1 a2 M0) h l
theorem wd_416 : (.fieldLink "TypesAtPrime" 51 "TypesAtPrime" "tree" "LTypesAtPrime$Tree;" : Cond) ∈ lw_tbl := List.mem_append_right _ (List.mem_of_getElem? (i := 416) (by decide +kernel))
theorem fl_Main_51 : tp_F "TypesAtPrime" 51 10 7 2 := ⟨_, _, _, rfl, by decide, rfl, wd_416, rfl, by decide⟩
theorem rv_0_7 : tp_rv 0 7 = 41 := by decide +kernel
theorem wd_289 : (.fieldLink "TypesAtPrime" 163 "TypesAtPrime$Tree" "stands" "Z" : Cond) ∈ lw_tbl := List.mem_append_right _ (List.mem_of_getElem? (i := 289) (by decide +kernel))
theorem fl_Main_163 : tp_F "TypesAtPrime" 163 9 0 0 := ⟨_, _, _, rfl, by decide, rfl, wd_289, rfl, by decide⟩
theorem wd_295 : (.fieldLink "TypesAtPrime" 167 "TypesAtPrime$Tree" "knotCount" "I" : Cond) ∈ lw_tbl := List.mem_append_right _ (List.mem_of_getElem? (i := 295) (by decide +kernel))
theorem fl_Main_167 : tp_F "TypesAtPrime" 167 9 2 0 := ⟨_, _, _, rfl, by decide, rfl, wd_295, rfl, by decide⟩
theorem wd_297 : (.fieldLink "TypesAtPrime" 160 "TypesAtPrime$Tree" "leafCount" "I" : Cond) ∈ lw_tbl := List.mem_append_right _ (List.mem_of_getElem? (i := 297) (by decide +kernel))
theorem fl_Main_160 : tp_F "TypesAtPrime" 160 9 3 0 := ⟨_, _, _, rfl, by decide, rfl, wd_297, rfl, by decide⟩
theorem wd_817 : (.code ⟨"TypesAtPrime$Tree", "wholeIndex", "()I"⟩ prog_11_method_9_code 4 (some .int) : Cond) ∈ lw_tbl := List.mem_append_right _ (List.mem_of_getElem? (i := 817) (by decide +kernel))
theorem cs_Main_170 : tp_CS "TypesAtPrime" 170 y_X9_wholeIndex i_X9_wholeIndex 0 := ⟨wd_817, wd_6, by decide, by decide, by decide +kernel⟩
theorem wd_814 : (.methodLink "TypesAtPrime" 170 ⟨"TypesAtPrime$Tree", "wholeIndex", "()I"⟩ : Cond) ∈ lw_tbl := List.mem_append_right _ (List.mem_of_getElem? (i := 814) (by decide +kernel))
theorem wd_815 : (.instanceMethod ⟨"TypesAtPrime$Tree", "wholeIndex", "()I"⟩ : Cond) ∈ lw_tbl := List.mem_append_right _ (List.mem_of_getElem? (i := 815) (by decide +kernel))
theorem wd_816 : (.selects "TypesAtPrime$Tree" ⟨"TypesAtPrime$Tree", "wholeIndex", "()I"⟩ ⟨"TypesAtPrime$Tree", "wholeIndex", "()I"⟩ : Cond) ∈ lw_tbl := List.mem_append_right _ (List.mem_of_getElem? (i := 816) (by decide +kernel))
theorem wd_821 : (.code ⟨"TypesAtPrime$Tree", "openDegree", "()I"⟩ prog_11_method_10_code 4 (some .int) : Cond) ∈ lw_tbl := List.mem_append_right _ (List.mem_of_getElem? (i := 821) (by decide +kernel))
theorem cs_Main_174 : tp_CS "TypesAtPrime" 174 y_X9_openDegree i_X9_openDegree 0 := ⟨wd_821, wd_6, by decide, by decide, by decide +kernel⟩
theorem wd_818 : (.methodLink "TypesAtPrime" 174 ⟨"TypesAtPrime$Tree", "openDegree", "()I"⟩ : Cond) ∈ lw_tbl := List.mem_append_right _ (List.mem_of_getElem? (i := 818) (by decide +kernel))
theorem wd_819 : (.instanceMethod ⟨"TypesAtPrime$Tree", "openDegree", "()I"⟩ : Cond) ∈ lw_tbl := List.mem_append_right _ (List.mem_of_getElem? (i := 819) (by decide +kernel))
theorem wd_820 : (.selects "TypesAtPrime$Tree" ⟨"TypesAtPrime$Tree", "openDegree", "()I"⟩ ⟨"TypesAtPrime$Tree", "openDegree", "()I"⟩ : Cond) ∈ lw_tbl := List.mem_append_right _ (List.mem_of_getElem? (i := 820) (by decide +kernel))
theorem wd_825 : (.code ⟨"TypesAtPrime$Tree", "greatestRamification", "()I"⟩ prog_11_method_11_code 4 (some .int) : Cond) ∈ lw_tbl := List.mem_append_right _ (List.mem_of_getElem? (i := 825) (by decide +kernel))
theorem cs_Main_177 : tp_CS "TypesAtPrime" 177 y_X9_greatestRamification i_X9_greatestRamification 0 := ⟨wd_825, wd_6, by decide, by decide, by decide +kernel⟩
theorem wd_822 : (.methodLink "TypesAtPrime" 177 ⟨"TypesAtPrime$Tree", "greatestRamification", "()I"⟩ : Cond) ∈ lw_tbl := List.mem_append_right _ (List.mem_of_getElem? (i := 822) (by decide +kernel))
theorem wd_823 : (.instanceMethod ⟨"TypesAtPrime$Tree", "greatestRamification", "()I"⟩ : Cond) ∈ lw_tbl := List.mem_append_right _ (List.mem_of_getElem? (i := 823) (by decide +kernel))
theorem wd_824 : (.selects "TypesAtPrime$Tree" ⟨"TypesAtPrime$Tree", "greatestRamification", "()I"⟩ ⟨"TypesAtPrime$Tree", "greatestRamification", "()I"⟩ : Cond) ∈ lw_tbl := List.mem_append_right _ (List.mem_of_getElem? (i := 824) (by decide +kernel))
theorem wd_830 : (.code ⟨"TypesAtPrime$Tree", "greatestLevel", "()I"⟩ prog_11_method_12_code 4 (some .int) : Cond) ∈ lw_tbl := List.mem_append_right _ (List.mem_of_getElem? (i := 830) (by decide +kernel))
theorem cs_Main_180 : tp_CS "TypesAtPrime" 180 y_X9_greatestLevel i_X9_greatestLevel 0 := ⟨wd_830, wd_6, by decide, by decide, by decide +kernel⟩
theorem wd_827 : (.methodLink "TypesAtPrime" 180 ⟨"TypesAtPrime$Tree", "greatestLevel", "()I"⟩ : Cond) ∈ lw_tbl := List.mem_append_right _ (List.mem_of_getElem? (i := 827) (by decide +kernel))
theorem wd_828 : (.instanceMethod ⟨"TypesAtPrime$Tree", "greatestLevel", "()I"⟩ : Cond) ∈ lw_tbl := List.mem_append_right _ (List.mem_of_getElem? (i := 828) (by decide +kernel))
theorem wd_829 : (.selects "TypesAtPrime$Tree" ⟨"TypesAtPrime$Tree", "greatestLevel", "()I"⟩ ⟨"TypesAtPrime$Tree", "greatestLevel", "()I"⟩ : Cond) ∈ lw_tbl := List.mem_append_right _ (List.mem_of_getElem? (i := 829) (by decide +kernel))
theorem wd_299 : (.fieldLink "TypesAtPrime" 183 "TypesAtPrime$Tree" "spellingSize" "I" : Cond) ∈ lw_tbl := List.mem_append_right _ (List.mem_of_getElem? (i := 299) (by decide +kernel))
theorem fl_Main_183 : tp_F "TypesAtPrime" 183 9 4 0 := ⟨_, _, _, rfl, by decide, rfl, wd_299, rfl, by decide⟩
theorem wd_292 : (.fieldLink "TypesAtPrime" 186 "TypesAtPrime$Tree" "degree" "I" : Cond) ∈ lw_tbl := List.mem_append_right _ (List.mem_of_getElem? (i := 292) (by decide +kernel))
theorem fl_Main_186 : tp_F "TypesAtPrime" 186 9 1 0 := ⟨_, _, _, rfl, by decide, rfl, wd_292, rfl, by decide⟩
def y_X10_tree : MethodName := ⟨"TypesAtPrime", "tree", "(I)I"⟩
abbrev i_X10_tree : tp_I := (prog_1_method_15_code, "TypesAtPrime", (some .int), 2, "tree")
abbrev o_X10_tree (M : tp_M) : Int → tp_O := fun r => (some (.inl r), tp_NC, tp_st M)
theorem d_X10_tree_0 : decode prog_1_method_15_code 0 = .ok (.iload_n 1, 1) := by decide +kernel
theorem d_X10_tree_1 : decode prog_1_method_15_code 1 = .ok (.ifCond .lt 9, 3) := by decide +kernel
theorem d_X10_tree_4 : decode prog_1_method_15_code 4 = .ok (.iload_n 1, 1) := by decide +kernel
theorem d_X10_tree_5 : decode prog_1_method_15_code 5 = .ok (.bipush 7, 2) := by decide +kernel
theorem d_X10_tree_7 : decode prog_1_method_15_code 7 = .ok (.if_icmp .le 5, 3) := by decide +kernel
theorem d_X10_tree_10 : decode prog_1_method_15_code 10 = .ok (.iconst (-1), 1) := by decide +kernel
theorem d_X10_tree_11 : decode prog_1_method_15_code 11 = .ok (.ireturn, 1) := by decide +kernel
theorem d_X10_tree_12 : decode prog_1_method_15_code 12 = .ok (.aload_n 0, 1) := by decide +kernel
theorem d_X10_tree_13 : decode prog_1_method_15_code 13 = .ok (.getfield 51, 3) := by decide +kernel
theorem d_X10_tree_16 : decode prog_1_method_15_code 16 = .ok (.getfield 163, 3) := by decide +kernel
theorem d_X10_tree_19 : decode prog_1_method_15_code 19 = .ok (.ifCond .ne 6, 3) := by decide +kernel
theorem d_X10_tree_22 : decode prog_1_method_15_code 22 = .ok (.bipush (-2), 2) := by decide +kernel
theorem d_X10_tree_24 : decode prog_1_method_15_code 24 = .ok (.ireturn, 1) := by decide +kernel
theorem d_X10_tree_25 : decode prog_1_method_15_code 25 = .ok (.iload_n 1, 1) := by decide +kernel
theorem d_X10_tree_26 : decode prog_1_method_15_code 26 = .ok (.tableswitch 98 0 6 #[42, 50, 58, 66, 74, 82, 90], 42) := by decide +kernel
theorem d_X10_tree_68 : decode prog_1_method_15_code 68 = .ok (.aload_n 0, 1) := by decide +kernel
theorem d_X10_tree_69 : decode prog_1_method_15_code 69 = .ok (.getfield 51, 3) := by decide +kernel
theorem d_X10_tree_72 : decode prog_1_method_15_code 72 = .ok (.getfield 167, 3) := by decide +kernel
theorem d_X10_tree_75 : decode prog_1_method_15_code 75 = .ok (.ireturn, 1) := by decide +kernel
theorem d_X10_tree_76 : decode prog_1_method_15_code 76 = .ok (.aload_n 0, 1) := by decide +kernel
theorem d_X10_tree_77 : decode prog_1_method_15_code 77 = .ok (.getfield 51, 3) := by decide +kernel
theorem d_X10_tree_80 : decode prog_1_method_15_code 80 = .ok (.getfield 160, 3) := by decide +kernel
theorem d_X10_tree_83 : decode prog_1_method_15_code 83 = .ok (.ireturn, 1) := by decide +kernel
theorem d_X10_tree_84 : decode prog_1_method_15_code 84 = .ok (.aload_n 0, 1) := by decide +kernel
theorem d_X10_tree_85 : decode prog_1_method_15_code 85 = .ok (.getfield 51, 3) := by decide +kernel
theorem d_X10_tree_88 : decode prog_1_method_15_code 88 = .ok (.invokevirtual 170, 3) := by decide +kernel
theorem d_X10_tree_91 : decode prog_1_method_15_code 91 = .ok (.ireturn, 1) := by decide +kernel
theorem d_X10_tree_92 : decode prog_1_method_15_code 92 = .ok (.aload_n 0, 1) := by decide +kernel
theorem d_X10_tree_93 : decode prog_1_method_15_code 93 = .ok (.getfield 51, 3) := by decide +kernel
theorem d_X10_tree_96 : decode prog_1_method_15_code 96 = .ok (.invokevirtual 174, 3) := by decide +kernel
theorem d_X10_tree_99 : decode prog_1_method_15_code 99 = .ok (.ireturn, 1) := by decide +kernel
theorem d_X10_tree_100 : decode prog_1_method_15_code 100 = .ok (.aload_n 0, 1) := by decide +kernel
theorem d_X10_tree_101 : decode prog_1_method_15_code 101 = .ok (.getfield 51, 3) := by decide +kernel
theorem d_X10_tree_104 : decode prog_1_method_15_code 104 = .ok (.invokevirtual 177, 3) := by decide +kernel
theorem d_X10_tree_107 : decode prog_1_method_15_code 107 = .ok (.ireturn, 1) := by decide +kernel
theorem d_X10_tree_108 : decode prog_1_method_15_code 108 = .ok (.aload_n 0, 1) := by decide +kernel
theorem d_X10_tree_109 : decode prog_1_method_15_code 109 = .ok (.getfield 51, 3) := by decide +kernel
theorem d_X10_tree_112 : decode prog_1_method_15_code 112 = .ok (.invokevirtual 180, 3) := by decide +kernel
theorem d_X10_tree_115 : decode prog_1_method_15_code 115 = .ok (.ireturn, 1) := by decide +kernel
theorem d_X10_tree_116 : decode prog_1_method_15_code 116 = .ok (.aload_n 0, 1) := by decide +kernel
theorem d_X10_tree_117 : decode prog_1_method_15_code 117 = .ok (.getfield 51, 3) := by decide +kernel
theorem d_X10_tree_120 : decode prog_1_method_15_code 120 = .ok (.getfield 183, 3) := by decide +kernel
theorem d_X10_tree_123 : decode prog_1_method_15_code 123 = .ok (.ireturn, 1) := by decide +kernel
theorem d_X10_tree_124 : decode prog_1_method_15_code 124 = .ok (.aload_n 0, 1) := by decide +kernel
theorem d_X10_tree_125 : decode prog_1_method_15_code 125 = .ok (.getfield 51, 3) := by decide +kernel
theorem d_X10_tree_128 : decode prog_1_method_15_code 128 = .ok (.getfield 186, 3) := by decide +kernel
theorem d_X10_tree_131 : decode prog_1_method_15_code 131 = .ok (.ireturn, 1) := by decide +kernel
def f_X10_tree (a0 : Int) (M0 : tp_M) : Option (Int) :=
  if a0 < 0 then
    some (-1)
  else
    if a0 ≤ 7 then
      if ¬ (M0 41 0) = 0 then
        if a0 = 0 then
          some (M0 41 2)
        else if a0 = 1 then
          some (M0 41 3)
        else if a0 = 2 then
          (f_X9_wholeIndex M0).bind fun r7 =>
          some r7
        else if a0 = 3 then
          (f_X9_openDegree M0).bind fun r10 =>
          some r10
        else if a0 = 4 then
          (f_X9_greatestRamification M0).bind fun r13 =>
          some r13
        else if a0 = 5 then
          (f_X9_greatestLevel M0).bind fun r16 =>
          some r16
        else if a0 = 6 then
          some (M0 41 4)
        else 
          some (M0 41 1)
      else
        some (-2)
    else
      some (-1)
set_option maxHeartbeats 4000000 in
set_option maxRecDepth 100000 in
theorem T_X10_tree (G : tp_G) (a0 : Int) (M0 : tp_M) : tp_J i_X10_tree (tp_rm 2) G 0 0 (o_X10_tree M0) tp_NC (tp_st M0) 0 0 [some (.inr (.inr 0)), some (.inl a0)] 0 [] (f_X10_tree a0 M0) := by
  unfold f_X10_tree
  refine j_iload_n rfl d_X10_tree_0 rfl ?_
  refine j_if_lt (tgt := 10) d_X10_tree_1 (by decide) (fun h1 => ?_) (fun h1 => ?_)
  · refine j_iconst ⟨by decide, by decide⟩ d_X10_tree_10 ?_
    exact j_iret d_X10_tree_11 rfl rfl ⟨rfl, rfl⟩
  · refine j_iload_n rfl d_X10_tree_4 rfl ?_
    refine j_bipush ⟨by decide, by decide⟩ (by decide +kernel) d_X10_tree_5 ?_
    refine j_icmp_le (tgt := 12) d_X10_tree_7 (by decide) (fun h2 => ?_) (fun h2 => ?_)
    · refine j_aload_n rfl d_X10_tree_12 rfl ?_
      refine j_getr fl_Main_51 tg_0 rv_0_7 d_X10_tree_13 ?_
      refine j_geti fl_Main_163 tg_41 d_X10_tree_16 ?_
      refine j_if_ne (tgt := 25) d_X10_tree_19 (by decide) (fun h3 => ?_) (fun h3 => ?_)
      · refine j_iload_n rfl d_X10_tree_25 rfl ?_
        refine tp_ite (fun h4 => ?_) (fun h4 => ?_)
        · refine j_tsin (tgt := 68) d_X10_tree_26 (by omega) (by omega) (off := 42) (by rw [h4]; decide +kernel) (by decide) ?_
          refine j_aload_n rfl d_X10_tree_68 rfl ?_
          refine j_getr fl_Main_51 tg_0 rv_0_7 d_X10_tree_69 ?_
          refine j_geti fl_Main_167 tg_41 d_X10_tree_72 ?_
          exact j_iret d_X10_tree_75 rfl rfl ⟨rfl, rfl⟩
        refine tp_ite (fun h5 => ?_) (fun h5 => ?_)
        · refine j_tsin (tgt := 76) d_X10_tree_26 (by omega) (by omega) (off := 50) (by rw [h5]; decide +kernel) (by decide) ?_
          refine j_aload_n rfl d_X10_tree_76 rfl ?_
          refine j_getr fl_Main_51 tg_0 rv_0_7 d_X10_tree_77 ?_
          refine j_geti fl_Main_160 tg_41 d_X10_tree_80 ?_
          exact j_iret d_X10_tree_83 rfl rfl ⟨rfl, rfl⟩
        refine tp_ite (fun h6 => ?_) (fun h6 => ?_)
        · refine j_tsin (tgt := 84) d_X10_tree_26 (by omega) (by omega) (off := 58) (by rw [h6]; decide +kernel) (by decide) ?_
          refine j_aload_n rfl d_X10_tree_84 rfl ?_
          refine j_getr fl_Main_51 tg_0 rv_0_7 d_X10_tree_85 ?_
          refine j_bind (fun r7 h8 => ?_)
          refine j_callV (y := y_X9_wholeIndex) (I' := i_X9_wholeIndex) (avs := []) (c := 41) (st := []) (c_X9_wholeIndex G M0 r7 h8) cs_Main_170 wd_814 wd_815 wd_816 tg_41 rfl rfl rfl (Nat.le_of_ble_eq_true rfl) ⟨rfl, rfl⟩ ⟨by decide, by decide⟩ ⟨by decide, by decide⟩ d_X10_tree_88 ?_
          exact j_iret d_X10_tree_91 rfl rfl ⟨rfl, rfl⟩
        refine tp_ite (fun h9 => ?_) (fun h9 => ?_)
        · refine j_tsin (tgt := 92) d_X10_tree_26 (by omega) (by omega) (off := 66) (by rw [h9]; decide +kernel) (by decide) ?_
          refine j_aload_n rfl d_X10_tree_92 rfl ?_
          refine j_getr fl_Main_51 tg_0 rv_0_7 d_X10_tree_93 ?_
          refine j_bind (fun r10 h11 => ?_)
          refine j_callV (y := y_X9_openDegree) (I' := i_X9_openDegree) (avs := []) (c := 41) (st := []) (c_X9_openDegree G M0 r10 h11) cs_Main_174 wd_818 wd_819 wd_820 tg_41 rfl rfl rfl (Nat.le_of_ble_eq_true rfl) ⟨rfl, rfl⟩ ⟨by decide, by decide⟩ ⟨by decide, by decide⟩ d_X10_tree_96 ?_
          exact j_iret d_X10_tree_99 rfl rfl ⟨rfl, rfl⟩
        refine tp_ite (fun h12 => ?_) (fun h12 => ?_)
        · refine j_tsin (tgt := 100) d_X10_tree_26 (by omega) (by omega) (off := 74) (by rw [h12]; decide +kernel) (by decide) ?_
          refine j_aload_n rfl d_X10_tree_100 rfl ?_
          refine j_getr fl_Main_51 tg_0 rv_0_7 d_X10_tree_101 ?_
          refine j_bind (fun r13 h14 => ?_)
          refine j_callV (y := y_X9_greatestRamification) (I' := i_X9_greatestRamification) (avs := []) (c := 41) (st := []) (c_X9_greatestRamification G M0 r13 h14) cs_Main_177 wd_822 wd_823 wd_824 tg_41 rfl rfl rfl (Nat.le_of_ble_eq_true rfl) ⟨rfl, rfl⟩ ⟨by decide, by decide⟩ ⟨by decide, by decide⟩ d_X10_tree_104 ?_
          exact j_iret d_X10_tree_107 rfl rfl ⟨rfl, rfl⟩
        refine tp_ite (fun h15 => ?_) (fun h15 => ?_)
        · refine j_tsin (tgt := 108) d_X10_tree_26 (by omega) (by omega) (off := 82) (by rw [h15]; decide +kernel) (by decide) ?_
          refine j_aload_n rfl d_X10_tree_108 rfl ?_
          refine j_getr fl_Main_51 tg_0 rv_0_7 d_X10_tree_109 ?_
          refine j_bind (fun r16 h17 => ?_)
          refine j_callV (y := y_X9_greatestLevel) (I' := i_X9_greatestLevel) (avs := []) (c := 41) (st := []) (c_X9_greatestLevel G M0 r16 h17) cs_Main_180 wd_827 wd_828 wd_829 tg_41 rfl rfl rfl (Nat.le_of_ble_eq_true rfl) ⟨rfl, rfl⟩ ⟨by decide, by decide⟩ ⟨by decide, by decide⟩ d_X10_tree_112 ?_
          exact j_iret d_X10_tree_115 rfl rfl ⟨rfl, rfl⟩
        refine tp_ite (fun h18 => ?_) (fun h18 => ?_)
        · refine j_tsin (tgt := 116) d_X10_tree_26 (by omega) (by omega) (off := 90) (by rw [h18]; decide +kernel) (by decide) ?_
          refine j_aload_n rfl d_X10_tree_116 rfl ?_
          refine j_getr fl_Main_51 tg_0 rv_0_7 d_X10_tree_117 ?_
          refine j_geti fl_Main_183 tg_41 d_X10_tree_120 ?_
          exact j_iret d_X10_tree_123 rfl rfl ⟨rfl, rfl⟩
        refine j_tsout (tgt := 124) d_X10_tree_26 (by omega) (by decide) ?_
        refine j_aload_n rfl d_X10_tree_124 rfl ?_
        refine j_getr fl_Main_51 tg_0 rv_0_7 d_X10_tree_125 ?_
        refine j_geti fl_Main_186 tg_41 d_X10_tree_128 ?_
        exact j_iret d_X10_tree_131 rfl rfl ⟨rfl, rfl⟩
      · refine j_bipush ⟨by decide, by decide⟩ (by decide +kernel) d_X10_tree_22 ?_
        exact j_iret d_X10_tree_24 rfl rfl ⟨rfl, rfl⟩
    · refine j_iconst ⟨by decide, by decide⟩ d_X10_tree_10 ?_
      exact j_iret d_X10_tree_11 rfl rfl ⟨rfl, rfl⟩
set_option maxHeartbeats 4000000 in
set_option maxRecDepth 100000 in
theorem c_X10_tree (G : tp_G) (a0 : Int) (M0 : tp_M) (r : Int) (h : f_X10_tree a0 M0 = some r) (l : Launch) : Met l y_X10_tree (tp_ws y_X10_tree i_X10_tree) (tp_rm 2) (tp_Pc G [.inr (.inr 0), .inl a0] tp_NC (tp_st M0)) (tp_Q G ((o_X10_tree M0) r)) 0 0 (tp_A G) :=
  tp_met (I := i_X10_tree) (y := y_X10_tree) (by decide +kernel) (Eq.refl "TypesAtPrime") (Eq.refl "tree") (lv := [some (.inr (.inr 0)), some (.inl a0)]) rfl (Nat.le_of_ble_eq_true rfl) (T_X10_tree G a0 M0) h l
theorem cs_Main_189 : tp_CS "TypesAtPrime" 189 y_X9_knotAt i_X9_knotAt 1 := ⟨wd_667, wd_6, by decide, by decide, by decide +kernel⟩
theorem wd_835 : (.methodLink "TypesAtPrime" 189 ⟨"TypesAtPrime$Tree", "knotAt", "(I)LTypesAtPrime$Knot;"⟩ : Cond) ∈ lw_tbl := List.mem_append_right _ (List.mem_of_getElem? (i := 835) (by decide +kernel))
theorem wd_167 : (.fieldLink "TypesAtPrime" 193 "TypesAtPrime$Knot" "level" "I" : Cond) ∈ lw_tbl := List.mem_append_right _ (List.mem_of_getElem? (i := 167) (by decide +kernel))
theorem fl_Main_193 : tp_F "TypesAtPrime" 193 2 0 0 := ⟨_, _, _, rfl, by decide, rfl, wd_167, rfl, by decide⟩
theorem wd_170 : (.fieldLink "TypesAtPrime" 198 "TypesAtPrime$Knot" "manifold" "I" : Cond) ∈ lw_tbl := List.mem_append_right _ (List.mem_of_getElem? (i := 170) (by decide +kernel))
theorem fl_Main_198 : tp_F "TypesAtPrime" 198 2 1 0 := ⟨_, _, _, rfl, by decide, rfl, wd_170, rfl, by decide⟩
theorem wd_174 : (.fieldLink "TypesAtPrime" 201 "TypesAtPrime$Knot" "degree" "I" : Cond) ∈ lw_tbl := List.mem_append_right _ (List.mem_of_getElem? (i := 174) (by decide +kernel))
theorem fl_Main_201 : tp_F "TypesAtPrime" 201 2 2 0 := ⟨_, _, _, rfl, by decide, rfl, wd_174, rfl, by decide⟩
theorem wd_186 : (.fieldLink "TypesAtPrime" 202 "TypesAtPrime$Knot" "sideCount" "I" : Cond) ∈ lw_tbl := List.mem_append_right _ (List.mem_of_getElem? (i := 186) (by decide +kernel))
theorem fl_Main_202 : tp_F "TypesAtPrime" 202 2 7 0 := ⟨_, _, _, rfl, by decide, rfl, wd_186, rfl, by decide⟩
theorem wd_182 : (.fieldLink "TypesAtPrime" 205 "TypesAtPrime$Knot" "index" "I" : Cond) ∈ lw_tbl := List.mem_append_right _ (List.mem_of_getElem? (i := 182) (by decide +kernel))
theorem fl_Main_205 : tp_F "TypesAtPrime" 205 2 5 0 := ⟨_, _, _, rfl, by decide, rfl, wd_182, rfl, by decide⟩
theorem wd_176 : (.fieldLink "TypesAtPrime" 208 "TypesAtPrime$Knot" "above" "I" : Cond) ∈ lw_tbl := List.mem_append_right _ (List.mem_of_getElem? (i := 176) (by decide +kernel))
theorem fl_Main_208 : tp_F "TypesAtPrime" 208 2 3 0 := ⟨_, _, _, rfl, by decide, rfl, wd_176, rfl, by decide⟩
theorem wd_179 : (.fieldLink "TypesAtPrime" 211 "TypesAtPrime$Knot" "first" "I" : Cond) ∈ lw_tbl := List.mem_append_right _ (List.mem_of_getElem? (i := 179) (by decide +kernel))
theorem fl_Main_211 : tp_F "TypesAtPrime" 211 2 4 0 := ⟨_, _, _, rfl, by decide, rfl, wd_179, rfl, by decide⟩
def y_X10_knot : MethodName := ⟨"TypesAtPrime", "knot", "(II)I"⟩
abbrev i_X10_knot : tp_I := (prog_1_method_16_code, "TypesAtPrime", (some .int), 4, "knot")
abbrev o_X10_knot (M : tp_M) : Int → tp_O := fun r => (some (.inl r), tp_NC, tp_st M)
theorem d_X10_knot_0 : decode prog_1_method_16_code 0 = .ok (.iload_n 2, 1) := by decide +kernel
theorem d_X10_knot_1 : decode prog_1_method_16_code 1 = .ok (.ifCond .lt 9, 3) := by decide +kernel
theorem d_X10_knot_4 : decode prog_1_method_16_code 4 = .ok (.iload_n 2, 1) := by decide +kernel
theorem d_X10_knot_5 : decode prog_1_method_16_code 5 = .ok (.bipush 6, 2) := by decide +kernel
theorem d_X10_knot_7 : decode prog_1_method_16_code 7 = .ok (.if_icmp .le 5, 3) := by decide +kernel
theorem d_X10_knot_10 : decode prog_1_method_16_code 10 = .ok (.iconst (-1), 1) := by decide +kernel
theorem d_X10_knot_11 : decode prog_1_method_16_code 11 = .ok (.ireturn, 1) := by decide +kernel
theorem d_X10_knot_12 : decode prog_1_method_16_code 12 = .ok (.aload_n 0, 1) := by decide +kernel
theorem d_X10_knot_13 : decode prog_1_method_16_code 13 = .ok (.getfield 51, 3) := by decide +kernel
theorem d_X10_knot_16 : decode prog_1_method_16_code 16 = .ok (.iload_n 1, 1) := by decide +kernel
theorem d_X10_knot_17 : decode prog_1_method_16_code 17 = .ok (.invokevirtual 189, 3) := by decide +kernel
theorem d_X10_knot_20 : decode prog_1_method_16_code 20 = .ok (.astore_n 3, 1) := by decide +kernel
theorem d_X10_knot_21 : decode prog_1_method_16_code 21 = .ok (.aload_n 3, 1) := by decide +kernel
theorem d_X10_knot_22 : decode prog_1_method_16_code 22 = .ok (.ifnonnull 6, 3) := by decide +kernel
theorem d_X10_knot_25 : decode prog_1_method_16_code 25 = .ok (.bipush (-2), 2) := by decide +kernel
theorem d_X10_knot_27 : decode prog_1_method_16_code 27 = .ok (.ireturn, 1) := by decide +kernel
theorem d_X10_knot_28 : decode prog_1_method_16_code 28 = .ok (.iload_n 2, 1) := by decide +kernel
theorem d_X10_knot_29 : decode prog_1_method_16_code 29 = .ok (.tableswitch 69 0 5 #[39, 44, 49, 54, 59, 64], 39) := by decide +kernel
theorem d_X10_knot_68 : decode prog_1_method_16_code 68 = .ok (.aload_n 3, 1) := by decide +kernel
theorem d_X10_knot_69 : decode prog_1_method_16_code 69 = .ok (.getfield 193, 3) := by decide +kernel
theorem d_X10_knot_72 : decode prog_1_method_16_code 72 = .ok (.ireturn, 1) := by decide +kernel
theorem d_X10_knot_73 : decode prog_1_method_16_code 73 = .ok (.aload_n 3, 1) := by decide +kernel
theorem d_X10_knot_74 : decode prog_1_method_16_code 74 = .ok (.getfield 198, 3) := by decide +kernel
theorem d_X10_knot_77 : decode prog_1_method_16_code 77 = .ok (.ireturn, 1) := by decide +kernel
theorem d_X10_knot_78 : decode prog_1_method_16_code 78 = .ok (.aload_n 3, 1) := by decide +kernel
theorem d_X10_knot_79 : decode prog_1_method_16_code 79 = .ok (.getfield 201, 3) := by decide +kernel
theorem d_X10_knot_82 : decode prog_1_method_16_code 82 = .ok (.ireturn, 1) := by decide +kernel
theorem d_X10_knot_83 : decode prog_1_method_16_code 83 = .ok (.aload_n 3, 1) := by decide +kernel
theorem d_X10_knot_84 : decode prog_1_method_16_code 84 = .ok (.getfield 202, 3) := by decide +kernel
theorem d_X10_knot_87 : decode prog_1_method_16_code 87 = .ok (.ireturn, 1) := by decide +kernel
theorem d_X10_knot_88 : decode prog_1_method_16_code 88 = .ok (.aload_n 3, 1) := by decide +kernel
theorem d_X10_knot_89 : decode prog_1_method_16_code 89 = .ok (.getfield 205, 3) := by decide +kernel
theorem d_X10_knot_92 : decode prog_1_method_16_code 92 = .ok (.ireturn, 1) := by decide +kernel
theorem d_X10_knot_93 : decode prog_1_method_16_code 93 = .ok (.aload_n 3, 1) := by decide +kernel
theorem d_X10_knot_94 : decode prog_1_method_16_code 94 = .ok (.getfield 208, 3) := by decide +kernel
theorem d_X10_knot_97 : decode prog_1_method_16_code 97 = .ok (.ireturn, 1) := by decide +kernel
theorem d_X10_knot_98 : decode prog_1_method_16_code 98 = .ok (.aload_n 3, 1) := by decide +kernel
theorem d_X10_knot_99 : decode prog_1_method_16_code 99 = .ok (.getfield 211, 3) := by decide +kernel
theorem d_X10_knot_102 : decode prog_1_method_16_code 102 = .ok (.ireturn, 1) := by decide +kernel
def f_X10_knot (a0 : Int) (a1 : Int) (M0 : tp_M) : Option (Int) :=
  if a1 < 0 then
    some (-1)
  else
    if a1 ≤ 6 then
      (f_X9_knotAt a0 M0).bind fun r3 =>
      if r3 = -1 then
        some (-2)
      else
        if a1 = 0 then
          if tp_tg r3 = 2 then
            some (M0 r3 0) else none
        else if a1 = 1 then
          if tp_tg r3 = 2 then
            some (M0 r3 1) else none
        else if a1 = 2 then
          if tp_tg r3 = 2 then
            some (M0 r3 2) else none
        else if a1 = 3 then
          if tp_tg r3 = 2 then
            some (M0 r3 7) else none
        else if a1 = 4 then
          if tp_tg r3 = 2 then
            some (M0 r3 5) else none
        else if a1 = 5 then
          if tp_tg r3 = 2 then
            some (M0 r3 3) else none
        else 
          if tp_tg r3 = 2 then
            some (M0 r3 4) else none
    else
      some (-1)
set_option maxHeartbeats 4000000 in
set_option maxRecDepth 100000 in
theorem T_X10_knot (G : tp_G) (a0 : Int) (a1 : Int) (M0 : tp_M) : tp_J i_X10_knot (tp_rm 1) G 0 0 (o_X10_knot M0) tp_NC (tp_st M0) 0 0 [some (.inr (.inr 0)), some (.inl a0), some (.inl a1), none] 0 [] (f_X10_knot a0 a1 M0) := by
  unfold f_X10_knot
  refine j_iload_n rfl d_X10_knot_0 rfl ?_
  refine j_if_lt (tgt := 10) d_X10_knot_1 (by decide) (fun h1 => ?_) (fun h1 => ?_)
  · refine j_iconst ⟨by decide, by decide⟩ d_X10_knot_10 ?_
    exact j_iret d_X10_knot_11 rfl rfl ⟨rfl, rfl⟩
  · refine j_iload_n rfl d_X10_knot_4 rfl ?_
    refine j_bipush ⟨by decide, by decide⟩ (by decide +kernel) d_X10_knot_5 ?_
    refine j_icmp_le (tgt := 12) d_X10_knot_7 (by decide) (fun h2 => ?_) (fun h2 => ?_)
    · refine j_aload_n rfl d_X10_knot_12 rfl ?_
      refine j_getr fl_Main_51 tg_0 rv_0_7 d_X10_knot_13 ?_
      refine j_iload_n rfl d_X10_knot_16 rfl ?_
      refine j_bind (fun r3 h4 => ?_)
      refine j_callV (y := y_X9_knotAt) (I' := i_X9_knotAt) (avs := [.inl a0]) (c := 41) (st := []) (c_X9_knotAt G a0 M0 r3 h4) cs_Main_189 wd_835 wd_665 wd_666 tg_41 rfl rfl rfl (Nat.le_of_ble_eq_true rfl) ⟨rfl, rfl⟩ ⟨by decide, by decide⟩ ⟨by decide, by decide⟩ d_X10_knot_17 ?_
      refine j_astore_n (lv' := [some (.inr (.inr 0)), some (.inl a0), some (.inl a1), some (.inr (.inr r3))]) rfl d_X10_knot_20 (Nat.le_of_ble_eq_true rfl) rfl ?_
      refine j_aload_n rfl d_X10_knot_21 rfl ?_
      refine j_ifnonnull (tgt := 28) d_X10_knot_22 (by decide) (fun h5 => ?_) (fun h5 => ?_)
      · refine j_bipush ⟨by decide, by decide⟩ (by decide +kernel) d_X10_knot_25 ?_
        exact j_iret d_X10_knot_27 rfl rfl ⟨rfl, rfl⟩
      · refine j_iload_n rfl d_X10_knot_28 rfl ?_
        refine tp_ite (fun h6 => ?_) (fun h6 => ?_)
        · refine j_tsin (tgt := 68) d_X10_knot_29 (by omega) (by omega) (off := 39) (by rw [h6]; decide +kernel) (by decide) ?_
          refine j_aload_n rfl d_X10_knot_68 rfl ?_
          refine tp_chk (fun ht7 => ?_)
          refine j_geti fl_Main_193 ht7 d_X10_knot_69 ?_
          exact j_iret d_X10_knot_72 rfl rfl ⟨rfl, rfl⟩
        refine tp_ite (fun h8 => ?_) (fun h8 => ?_)
        · refine j_tsin (tgt := 73) d_X10_knot_29 (by omega) (by omega) (off := 44) (by rw [h8]; decide +kernel) (by decide) ?_
          refine j_aload_n rfl d_X10_knot_73 rfl ?_
          refine tp_chk (fun ht9 => ?_)
          refine j_geti fl_Main_198 ht9 d_X10_knot_74 ?_
          exact j_iret d_X10_knot_77 rfl rfl ⟨rfl, rfl⟩
        refine tp_ite (fun h10 => ?_) (fun h10 => ?_)
        · refine j_tsin (tgt := 78) d_X10_knot_29 (by omega) (by omega) (off := 49) (by rw [h10]; decide +kernel) (by decide) ?_
          refine j_aload_n rfl d_X10_knot_78 rfl ?_
          refine tp_chk (fun ht11 => ?_)
          refine j_geti fl_Main_201 ht11 d_X10_knot_79 ?_
          exact j_iret d_X10_knot_82 rfl rfl ⟨rfl, rfl⟩
        refine tp_ite (fun h12 => ?_) (fun h12 => ?_)
        · refine j_tsin (tgt := 83) d_X10_knot_29 (by omega) (by omega) (off := 54) (by rw [h12]; decide +kernel) (by decide) ?_
          refine j_aload_n rfl d_X10_knot_83 rfl ?_
          refine tp_chk (fun ht13 => ?_)
          refine j_geti fl_Main_202 ht13 d_X10_knot_84 ?_
          exact j_iret d_X10_knot_87 rfl rfl ⟨rfl, rfl⟩
        refine tp_ite (fun h14 => ?_) (fun h14 => ?_)
        · refine j_tsin (tgt := 88) d_X10_knot_29 (by omega) (by omega) (off := 59) (by rw [h14]; decide +kernel) (by decide) ?_
          refine j_aload_n rfl d_X10_knot_88 rfl ?_
          refine tp_chk (fun ht15 => ?_)
          refine j_geti fl_Main_205 ht15 d_X10_knot_89 ?_
          exact j_iret d_X10_knot_92 rfl rfl ⟨rfl, rfl⟩
        refine tp_ite (fun h16 => ?_) (fun h16 => ?_)
        · refine j_tsin (tgt := 93) d_X10_knot_29 (by omega) (by omega) (off := 64) (by rw [h16]; decide +kernel) (by decide) ?_
          refine j_aload_n rfl d_X10_knot_93 rfl ?_
          refine tp_chk (fun ht17 => ?_)
          refine j_geti fl_Main_208 ht17 d_X10_knot_94 ?_
          exact j_iret d_X10_knot_97 rfl rfl ⟨rfl, rfl⟩
        refine j_tsout (tgt := 98) d_X10_knot_29 (by omega) (by decide) ?_
        refine j_aload_n rfl d_X10_knot_98 rfl ?_
        refine tp_chk (fun ht18 => ?_)
        refine j_geti fl_Main_211 ht18 d_X10_knot_99 ?_
        exact j_iret d_X10_knot_102 rfl rfl ⟨rfl, rfl⟩
    · refine j_iconst ⟨by decide, by decide⟩ d_X10_knot_10 ?_
      exact j_iret d_X10_knot_11 rfl rfl ⟨rfl, rfl⟩
set_option maxHeartbeats 4000000 in
set_option maxRecDepth 100000 in
theorem c_X10_knot (G : tp_G) (a0 : Int) (a1 : Int) (M0 : tp_M) (r : Int) (h : f_X10_knot a0 a1 M0 = some r) (l : Launch) : Met l y_X10_knot (tp_ws y_X10_knot i_X10_knot) (tp_rm 1) (tp_Pc G [.inr (.inr 0), .inl a0, .inl a1] tp_NC (tp_st M0)) (tp_Q G ((o_X10_knot M0) r)) 0 0 (tp_A G) :=
  tp_met (I := i_X10_knot) (y := y_X10_knot) (by decide +kernel) (Eq.refl "TypesAtPrime") (Eq.refl "knot") (lv := [some (.inr (.inr 0)), some (.inl a0), some (.inl a1), none]) rfl (Nat.le_of_ble_eq_true rfl) (T_X10_knot G a0 a1 M0) h l
theorem wd_191 : (.fieldLink "TypesAtPrime" 214 "TypesAtPrime$Knot" "key" "[J" : Cond) ∈ lw_tbl := List.mem_append_right _ (List.mem_of_getElem? (i := 191) (by decide +kernel))
theorem fl_Main_214 : tp_F "TypesAtPrime" 214 2 8 2 := ⟨_, _, _, rfl, by decide, rfl, wd_191, rfl, by decide⟩
def y_X10_key : MethodName := ⟨"TypesAtPrime", "key", "(II)J"⟩
abbrev i_X10_key : tp_I := (prog_1_method_17_code, "TypesAtPrime", (some .long), 4, "key")
abbrev o_X10_key (M : tp_M) : Int → tp_O := fun r => (some (.inr (.inl r)), tp_NC, tp_st M)
theorem d_X10_key_0 : decode prog_1_method_17_code 0 = .ok (.aload_n 0, 1) := by decide +kernel
theorem d_X10_key_1 : decode prog_1_method_17_code 1 = .ok (.getfield 51, 3) := by decide +kernel
theorem d_X10_key_4 : decode prog_1_method_17_code 4 = .ok (.iload_n 1, 1) := by decide +kernel
theorem d_X10_key_5 : decode prog_1_method_17_code 5 = .ok (.invokevirtual 189, 3) := by decide +kernel
theorem d_X10_key_8 : decode prog_1_method_17_code 8 = .ok (.astore_n 3, 1) := by decide +kernel
theorem d_X10_key_9 : decode prog_1_method_17_code 9 = .ok (.aload_n 3, 1) := by decide +kernel
theorem d_X10_key_10 : decode prog_1_method_17_code 10 = .ok (.ifnull 10, 3) := by decide +kernel
theorem d_X10_key_13 : decode prog_1_method_17_code 13 = .ok (.iload_n 2, 1) := by decide +kernel
theorem d_X10_key_14 : decode prog_1_method_17_code 14 = .ok (.invokestatic 106, 3) := by decide +kernel
theorem d_X10_key_17 : decode prog_1_method_17_code 17 = .ok (.ifCond .ne 7, 3) := by decide +kernel
theorem d_X10_key_20 : decode prog_1_method_17_code 20 = .ok (.ldc2_w 113, 3) := by decide +kernel
theorem d_X10_key_23 : decode prog_1_method_17_code 23 = .ok (.lreturn, 1) := by decide +kernel
theorem d_X10_key_24 : decode prog_1_method_17_code 24 = .ok (.aload_n 3, 1) := by decide +kernel
theorem d_X10_key_25 : decode prog_1_method_17_code 25 = .ok (.getfield 214, 3) := by decide +kernel
theorem d_X10_key_28 : decode prog_1_method_17_code 28 = .ok (.iload_n 2, 1) := by decide +kernel
theorem d_X10_key_29 : decode prog_1_method_17_code 29 = .ok (.laload, 1) := by decide +kernel
theorem d_X10_key_30 : decode prog_1_method_17_code 30 = .ok (.lreturn, 1) := by decide +kernel
def f_X10_key (a0 : Int) (a1 : Int) (M0 : tp_M) : Option (Int) :=
  (f_X9_knotAt a0 M0).bind fun r1 =>
  if r1 = -1 then
    some (-9223372036854775808)
  else
    (f_X10_isPower a1 M0).bind fun r4 =>
    if ¬ r4 = 0 then
      if tp_tg r1 = 2 then
        if 0 ≤ a1 ∧ a1 < 9 then
          some (M0 (r1 + 1) a1) else none else none
    else
      some (-9223372036854775808)
set_option maxHeartbeats 4000000 in
set_option maxRecDepth 100000 in
theorem T_X10_key (G : tp_G) (a0 : Int) (a1 : Int) (M0 : tp_M) : tp_J i_X10_key (tp_rm 1) G 0 0 (o_X10_key M0) tp_NC (tp_st M0) 0 0 [some (.inr (.inr 0)), some (.inl a0), some (.inl a1), none] 0 [] (f_X10_key a0 a1 M0) := by
  unfold f_X10_key
  refine j_aload_n rfl d_X10_key_0 rfl ?_
  refine j_getr fl_Main_51 tg_0 rv_0_7 d_X10_key_1 ?_
  refine j_iload_n rfl d_X10_key_4 rfl ?_
  refine j_bind (fun r1 h2 => ?_)
  refine j_callV (y := y_X9_knotAt) (I' := i_X9_knotAt) (avs := [.inl a0]) (c := 41) (st := []) (c_X9_knotAt G a0 M0 r1 h2) cs_Main_189 wd_835 wd_665 wd_666 tg_41 rfl rfl rfl (Nat.le_of_ble_eq_true rfl) ⟨rfl, rfl⟩ ⟨by decide, by decide⟩ ⟨by decide, by decide⟩ d_X10_key_5 ?_
  refine j_astore_n (lv' := [some (.inr (.inr 0)), some (.inl a0), some (.inl a1), some (.inr (.inr r1))]) rfl d_X10_key_8 (Nat.le_of_ble_eq_true rfl) rfl ?_
  refine j_aload_n rfl d_X10_key_9 rfl ?_
  refine j_ifnull (tgt := 20) d_X10_key_10 (by decide) (fun h3 => ?_) (fun h3 => ?_)
  · refine j_ldc2 (x := (-9223372036854775808)) ⟨by decide, by decide⟩ (show Cond.constantLong _ _ _ ∈ lw_tbl from wd_526) d_X10_key_20 ?_
    exact j_lret d_X10_key_23 rfl rfl ⟨rfl, rfl⟩
  · refine j_iload_n rfl d_X10_key_13 rfl ?_
    refine j_bind (fun r4 h5 => ?_)
    refine j_callS (y := y_X10_isPower) (I' := i_X10_isPower) (avs := [.inl a1]) (st := []) (c_X10_isPower G a1 M0 r4 h5) cs_Main_106 wd_523 wd_524 rfl rfl (Nat.le_of_ble_eq_true rfl) ⟨rfl, rfl⟩ ⟨by decide, by decide⟩ ⟨by decide, by decide⟩ d_X10_key_14 ?_
    refine j_if_ne (tgt := 24) d_X10_key_17 (by decide) (fun h6 => ?_) (fun h6 => ?_)
    · refine j_aload_n rfl d_X10_key_24 rfl ?_
      refine tp_chk (fun ht7 => ?_)
      refine j_getr fl_Main_214 ht7 (fam_2_8 _ ht7).1 d_X10_key_25 ?_
      refine j_iload_n rfl d_X10_key_28 rfl ?_
      refine j_lald ((fam_2_8 _ ht7).2.1) ((fam_2_8 _ ht7).2.2) d_X10_key_29 ?_
      exact j_lret d_X10_key_30 rfl rfl ⟨rfl, rfl⟩
    · refine j_ldc2 (x := (-9223372036854775808)) ⟨by decide, by decide⟩ (show Cond.constantLong _ _ _ ∈ lw_tbl from wd_526) d_X10_key_20 ?_
      exact j_lret d_X10_key_23 rfl rfl ⟨rfl, rfl⟩
set_option maxHeartbeats 4000000 in
set_option maxRecDepth 100000 in
theorem c_X10_key (G : tp_G) (a0 : Int) (a1 : Int) (M0 : tp_M) (r : Int) (h : f_X10_key a0 a1 M0 = some r) (l : Launch) : Met l y_X10_key (tp_ws y_X10_key i_X10_key) (tp_rm 1) (tp_Pc G [.inr (.inr 0), .inl a0, .inl a1] tp_NC (tp_st M0)) (tp_Q G ((o_X10_key M0) r)) 0 0 (tp_A G) :=
  tp_met (I := i_X10_key) (y := y_X10_key) (by decide +kernel) (Eq.refl "TypesAtPrime") (Eq.refl "key") (lv := [some (.inr (.inr 0)), some (.inl a0), some (.inl a1), none]) rfl (Nat.le_of_ble_eq_true rfl) (T_X10_key G a0 a1 M0) h l
theorem wd_195 : (.fieldLink "TypesAtPrime" 217 "TypesAtPrime$Knot" "points" "[I" : Cond) ∈ lw_tbl := List.mem_append_right _ (List.mem_of_getElem? (i := 195) (by decide +kernel))
theorem fl_Main_217 : tp_F "TypesAtPrime" 217 2 9 2 := ⟨_, _, _, rfl, by decide, rfl, wd_195, rfl, by decide⟩
def y_X10_point : MethodName := ⟨"TypesAtPrime", "point", "(II)I"⟩
abbrev i_X10_point : tp_I := (prog_1_method_18_code, "TypesAtPrime", (some .int), 4, "point")
abbrev o_X10_point (M : tp_M) : Int → tp_O := fun r => (some (.inl r), tp_NC, tp_st M)
theorem d_X10_point_0 : decode prog_1_method_18_code 0 = .ok (.iload_n 2, 1) := by decide +kernel
theorem d_X10_point_1 : decode prog_1_method_18_code 1 = .ok (.invokestatic 106, 3) := by decide +kernel
theorem d_X10_point_4 : decode prog_1_method_18_code 4 = .ok (.ifCond .ne 5, 3) := by decide +kernel
theorem d_X10_point_7 : decode prog_1_method_18_code 7 = .ok (.iconst (-1), 1) := by decide +kernel
theorem d_X10_point_8 : decode prog_1_method_18_code 8 = .ok (.ireturn, 1) := by decide +kernel
theorem d_X10_point_9 : decode prog_1_method_18_code 9 = .ok (.aload_n 0, 1) := by decide +kernel
theorem d_X10_point_10 : decode prog_1_method_18_code 10 = .ok (.getfield 51, 3) := by decide +kernel
theorem d_X10_point_13 : decode prog_1_method_18_code 13 = .ok (.iload_n 1, 1) := by decide +kernel
theorem d_X10_point_14 : decode prog_1_method_18_code 14 = .ok (.invokevirtual 189, 3) := by decide +kernel
theorem d_X10_point_17 : decode prog_1_method_18_code 17 = .ok (.astore_n 3, 1) := by decide +kernel
theorem d_X10_point_18 : decode prog_1_method_18_code 18 = .ok (.aload_n 3, 1) := by decide +kernel
theorem d_X10_point_19 : decode prog_1_method_18_code 19 = .ok (.ifnull 12, 3) := by decide +kernel
theorem d_X10_point_22 : decode prog_1_method_18_code 22 = .ok (.aload_n 3, 1) := by decide +kernel
theorem d_X10_point_23 : decode prog_1_method_18_code 23 = .ok (.getfield 217, 3) := by decide +kernel
theorem d_X10_point_26 : decode prog_1_method_18_code 26 = .ok (.iload_n 2, 1) := by decide +kernel
theorem d_X10_point_27 : decode prog_1_method_18_code 27 = .ok (.iaload, 1) := by decide +kernel
theorem d_X10_point_28 : decode prog_1_method_18_code 28 = .ok (.ifCond .ge 6, 3) := by decide +kernel
theorem d_X10_point_31 : decode prog_1_method_18_code 31 = .ok (.bipush (-2), 2) := by decide +kernel
theorem d_X10_point_33 : decode prog_1_method_18_code 33 = .ok (.ireturn, 1) := by decide +kernel
theorem d_X10_point_34 : decode prog_1_method_18_code 34 = .ok (.aload_n 3, 1) := by decide +kernel
theorem d_X10_point_35 : decode prog_1_method_18_code 35 = .ok (.getfield 217, 3) := by decide +kernel
theorem d_X10_point_38 : decode prog_1_method_18_code 38 = .ok (.iload_n 2, 1) := by decide +kernel
theorem d_X10_point_39 : decode prog_1_method_18_code 39 = .ok (.iaload, 1) := by decide +kernel
theorem d_X10_point_40 : decode prog_1_method_18_code 40 = .ok (.ireturn, 1) := by decide +kernel
def f_X10_point (a0 : Int) (a1 : Int) (M0 : tp_M) : Option (Int) :=
  (f_X10_isPower a1 M0).bind fun r1 =>
  if ¬ r1 = 0 then
    (f_X9_knotAt a0 M0).bind fun r4 =>
    if r4 = -1 then
      some (-2)
    else
      if tp_tg r4 = 2 then
        if 0 ≤ a1 ∧ a1 < 9 then
          if 0 ≤ (M0 (r4 + 2) a1) then
            if 0 ≤ a1 ∧ a1 < 9 then
              some (M0 (r4 + 2) a1) else none
          else
            some (-2) else none else none
  else
    some (-1)
set_option maxHeartbeats 4000000 in
set_option maxRecDepth 100000 in
theorem T_X10_point (G : tp_G) (a0 : Int) (a1 : Int) (M0 : tp_M) : tp_J i_X10_point (tp_rm 1) G 0 0 (o_X10_point M0) tp_NC (tp_st M0) 0 0 [some (.inr (.inr 0)), some (.inl a0), some (.inl a1), none] 0 [] (f_X10_point a0 a1 M0) := by
  unfold f_X10_point
  refine j_iload_n rfl d_X10_point_0 rfl ?_
  refine j_bind (fun r1 h2 => ?_)
  refine j_callS (y := y_X10_isPower) (I' := i_X10_isPower) (avs := [.inl a1]) (st := []) (c_X10_isPower G a1 M0 r1 h2) cs_Main_106 wd_523 wd_524 rfl rfl (Nat.le_of_ble_eq_true rfl) ⟨rfl, rfl⟩ ⟨by decide, by decide⟩ ⟨by decide, by decide⟩ d_X10_point_1 ?_
  refine j_if_ne (tgt := 9) d_X10_point_4 (by decide) (fun h3 => ?_) (fun h3 => ?_)
  · refine j_aload_n rfl d_X10_point_9 rfl ?_
    refine j_getr fl_Main_51 tg_0 rv_0_7 d_X10_point_10 ?_
    refine j_iload_n rfl d_X10_point_13 rfl ?_
    refine j_bind (fun r4 h5 => ?_)
    refine j_callV (y := y_X9_knotAt) (I' := i_X9_knotAt) (avs := [.inl a0]) (c := 41) (st := []) (c_X9_knotAt G a0 M0 r4 h5) cs_Main_189 wd_835 wd_665 wd_666 tg_41 rfl rfl rfl (Nat.le_of_ble_eq_true rfl) ⟨rfl, rfl⟩ ⟨by decide, by decide⟩ ⟨by decide, by decide⟩ d_X10_point_14 ?_
    refine j_astore_n (lv' := [some (.inr (.inr 0)), some (.inl a0), some (.inl a1), some (.inr (.inr r4))]) rfl d_X10_point_17 (Nat.le_of_ble_eq_true rfl) rfl ?_
    refine j_aload_n rfl d_X10_point_18 rfl ?_
    refine j_ifnull (tgt := 31) d_X10_point_19 (by decide) (fun h6 => ?_) (fun h6 => ?_)
    · refine j_bipush ⟨by decide, by decide⟩ (by decide +kernel) d_X10_point_31 ?_
      exact j_iret d_X10_point_33 rfl rfl ⟨rfl, rfl⟩
    · refine j_aload_n rfl d_X10_point_22 rfl ?_
      refine tp_chk (fun ht7 => ?_)
      refine j_getr fl_Main_217 ht7 (fam_2_9 _ ht7).1 d_X10_point_23 ?_
      refine j_iload_n rfl d_X10_point_26 rfl ?_
      refine j_iald ((fam_2_9 _ ht7).2.1) ((fam_2_9 _ ht7).2.2) d_X10_point_27 ?_
      refine j_if_ge (tgt := 34) d_X10_point_28 (by decide) (fun h8 => ?_) (fun h8 => ?_)
      · refine j_aload_n rfl d_X10_point_34 rfl ?_
        refine j_getr fl_Main_217 ht7 (fam_2_9 _ ht7).1 d_X10_point_35 ?_
        refine j_iload_n rfl d_X10_point_38 rfl ?_
        refine j_iald ((fam_2_9 _ ht7).2.1) ((fam_2_9 _ ht7).2.2) d_X10_point_39 ?_
        exact j_iret d_X10_point_40 rfl rfl ⟨rfl, rfl⟩
      · refine j_bipush ⟨by decide, by decide⟩ (by decide +kernel) d_X10_point_31 ?_
        exact j_iret d_X10_point_33 rfl rfl ⟨rfl, rfl⟩
  · refine j_iconst ⟨by decide, by decide⟩ d_X10_point_7 ?_
    exact j_iret d_X10_point_8 rfl rfl ⟨rfl, rfl⟩
set_option maxHeartbeats 4000000 in
set_option maxRecDepth 100000 in
theorem c_X10_point (G : tp_G) (a0 : Int) (a1 : Int) (M0 : tp_M) (r : Int) (h : f_X10_point a0 a1 M0 = some r) (l : Launch) : Met l y_X10_point (tp_ws y_X10_point i_X10_point) (tp_rm 1) (tp_Pc G [.inr (.inr 0), .inl a0, .inl a1] tp_NC (tp_st M0)) (tp_Q G ((o_X10_point M0) r)) 0 0 (tp_A G) :=
  tp_met (I := i_X10_point) (y := y_X10_point) (by decide +kernel) (Eq.refl "TypesAtPrime") (Eq.refl "point") (lv := [some (.inr (.inr 0)), some (.inl a0), some (.inl a1), none]) rfl (Nat.le_of_ble_eq_true rfl) (T_X10_point G a0 a1 M0) h l
theorem wd_775 : (.code ⟨"TypesAtPrime$Tree", "sideAt", "(II)LTypesAtPrime$Side;"⟩ prog_11_method_5_code 5 (some (.object "TypesAtPrime$Side")) : Cond) ∈ lw_tbl := List.mem_append_right _ (List.mem_of_getElem? (i := 775) (by decide +kernel))
theorem cs_Main_220 : tp_CS "TypesAtPrime" 220 y_X9_sideAt i_X9_sideAt 2 := ⟨wd_775, wd_6, by decide, by decide, by decide +kernel⟩
theorem wd_848 : (.methodLink "TypesAtPrime" 220 ⟨"TypesAtPrime$Tree", "sideAt", "(II)LTypesAtPrime$Side;"⟩ : Cond) ∈ lw_tbl := List.mem_append_right _ (List.mem_of_getElem? (i := 848) (by decide +kernel))
theorem wd_773 : (.instanceMethod ⟨"TypesAtPrime$Tree", "sideAt", "(II)LTypesAtPrime$Side;"⟩ : Cond) ∈ lw_tbl := List.mem_append_right _ (List.mem_of_getElem? (i := 773) (by decide +kernel))
theorem wd_774 : (.selects "TypesAtPrime$Tree" ⟨"TypesAtPrime$Tree", "sideAt", "(II)LTypesAtPrime$Side;"⟩ ⟨"TypesAtPrime$Tree", "sideAt", "(II)LTypesAtPrime$Side;"⟩ : Cond) ∈ lw_tbl := List.mem_append_right _ (List.mem_of_getElem? (i := 774) (by decide +kernel))
theorem wd_224 : (.fieldLink "TypesAtPrime" 224 "TypesAtPrime$Side" "begin" "I" : Cond) ∈ lw_tbl := List.mem_append_right _ (List.mem_of_getElem? (i := 224) (by decide +kernel))
theorem fl_Main_224 : tp_F "TypesAtPrime" 224 7 0 0 := ⟨_, _, _, rfl, by decide, rfl, wd_224, rfl, by decide⟩
theorem wd_226 : (.fieldLink "TypesAtPrime" 229 "TypesAtPrime$Side" "end" "I" : Cond) ∈ lw_tbl := List.mem_append_right _ (List.mem_of_getElem? (i := 226) (by decide +kernel))
theorem fl_Main_229 : tp_F "TypesAtPrime" 229 7 1 0 := ⟨_, _, _, rfl, by decide, rfl, wd_226, rfl, by decide⟩
theorem wd_228 : (.fieldLink "TypesAtPrime" 232 "TypesAtPrime$Side" "fall" "I" : Cond) ∈ lw_tbl := List.mem_append_right _ (List.mem_of_getElem? (i := 228) (by decide +kernel))
theorem fl_Main_232 : tp_F "TypesAtPrime" 232 7 2 0 := ⟨_, _, _, rfl, by decide, rfl, wd_228, rfl, by decide⟩
theorem wd_231 : (.fieldLink "TypesAtPrime" 235 "TypesAtPrime$Side" "ramification" "I" : Cond) ∈ lw_tbl := List.mem_append_right _ (List.mem_of_getElem? (i := 231) (by decide +kernel))
theorem fl_Main_235 : tp_F "TypesAtPrime" 235 7 3 0 := ⟨_, _, _, rfl, by decide, rfl, wd_231, rfl, by decide⟩
theorem wd_233 : (.fieldLink "TypesAtPrime" 238 "TypesAtPrime$Side" "parts" "I" : Cond) ∈ lw_tbl := List.mem_append_right _ (List.mem_of_getElem? (i := 233) (by decide +kernel))
theorem fl_Main_238 : tp_F "TypesAtPrime" 238 7 4 0 := ⟨_, _, _, rfl, by decide, rfl, wd_233, rfl, by decide⟩
theorem wd_236 : (.fieldLink "TypesAtPrime" 241 "TypesAtPrime$Side" "slopeValue" "I" : Cond) ∈ lw_tbl := List.mem_append_right _ (List.mem_of_getElem? (i := 236) (by decide +kernel))
theorem fl_Main_241 : tp_F "TypesAtPrime" 241 7 5 0 := ⟨_, _, _, rfl, by decide, rfl, wd_236, rfl, by decide⟩
def y_X10_side : MethodName := ⟨"TypesAtPrime", "side", "(III)I"⟩
abbrev i_X10_side : tp_I := (prog_1_method_19_code, "TypesAtPrime", (some .int), 5, "side")
abbrev o_X10_side (M : tp_M) : Int → tp_O := fun r => (some (.inl r), tp_NC, tp_st M)
theorem d_X10_side_0 : decode prog_1_method_19_code 0 = .ok (.iload_n 3, 1) := by decide +kernel
theorem d_X10_side_1 : decode prog_1_method_19_code 1 = .ok (.ifCond .lt 8, 3) := by decide +kernel
theorem d_X10_side_4 : decode prog_1_method_19_code 4 = .ok (.iload_n 3, 1) := by decide +kernel
theorem d_X10_side_5 : decode prog_1_method_19_code 5 = .ok (.iconst 5, 1) := by decide +kernel
theorem d_X10_side_6 : decode prog_1_method_19_code 6 = .ok (.if_icmp .le 5, 3) := by decide +kernel
theorem d_X10_side_9 : decode prog_1_method_19_code 9 = .ok (.iconst (-1), 1) := by decide +kernel
theorem d_X10_side_10 : decode prog_1_method_19_code 10 = .ok (.ireturn, 1) := by decide +kernel
theorem d_X10_side_11 : decode prog_1_method_19_code 11 = .ok (.aload_n 0, 1) := by decide +kernel
theorem d_X10_side_12 : decode prog_1_method_19_code 12 = .ok (.getfield 51, 3) := by decide +kernel
theorem d_X10_side_15 : decode prog_1_method_19_code 15 = .ok (.iload_n 1, 1) := by decide +kernel
theorem d_X10_side_16 : decode prog_1_method_19_code 16 = .ok (.iload_n 2, 1) := by decide +kernel
theorem d_X10_side_17 : decode prog_1_method_19_code 17 = .ok (.invokevirtual 220, 3) := by decide +kernel
theorem d_X10_side_20 : decode prog_1_method_19_code 20 = .ok (.astore 4, 2) := by decide +kernel
theorem d_X10_side_22 : decode prog_1_method_19_code 22 = .ok (.aload 4, 2) := by decide +kernel
theorem d_X10_side_24 : decode prog_1_method_19_code 24 = .ok (.ifnonnull 6, 3) := by decide +kernel
theorem d_X10_side_27 : decode prog_1_method_19_code 27 = .ok (.bipush (-2), 2) := by decide +kernel
theorem d_X10_side_29 : decode prog_1_method_19_code 29 = .ok (.ireturn, 1) := by decide +kernel
theorem d_X10_side_30 : decode prog_1_method_19_code 30 = .ok (.iload_n 3, 1) := by decide +kernel
theorem d_X10_side_31 : decode prog_1_method_19_code 31 = .ok (.tableswitch 63 0 4 #[33, 39, 45, 51, 57], 33) := by decide +kernel
theorem d_X10_side_64 : decode prog_1_method_19_code 64 = .ok (.aload 4, 2) := by decide +kernel
theorem d_X10_side_66 : decode prog_1_method_19_code 66 = .ok (.getfield 224, 3) := by decide +kernel
theorem d_X10_side_69 : decode prog_1_method_19_code 69 = .ok (.ireturn, 1) := by decide +kernel
theorem d_X10_side_70 : decode prog_1_method_19_code 70 = .ok (.aload 4, 2) := by decide +kernel
theorem d_X10_side_72 : decode prog_1_method_19_code 72 = .ok (.getfield 229, 3) := by decide +kernel
theorem d_X10_side_75 : decode prog_1_method_19_code 75 = .ok (.ireturn, 1) := by decide +kernel
theorem d_X10_side_76 : decode prog_1_method_19_code 76 = .ok (.aload 4, 2) := by decide +kernel
theorem d_X10_side_78 : decode prog_1_method_19_code 78 = .ok (.getfield 232, 3) := by decide +kernel
theorem d_X10_side_81 : decode prog_1_method_19_code 81 = .ok (.ireturn, 1) := by decide +kernel
theorem d_X10_side_82 : decode prog_1_method_19_code 82 = .ok (.aload 4, 2) := by decide +kernel
theorem d_X10_side_84 : decode prog_1_method_19_code 84 = .ok (.getfield 235, 3) := by decide +kernel
theorem d_X10_side_87 : decode prog_1_method_19_code 87 = .ok (.ireturn, 1) := by decide +kernel
theorem d_X10_side_88 : decode prog_1_method_19_code 88 = .ok (.aload 4, 2) := by decide +kernel
theorem d_X10_side_90 : decode prog_1_method_19_code 90 = .ok (.getfield 238, 3) := by decide +kernel
theorem d_X10_side_93 : decode prog_1_method_19_code 93 = .ok (.ireturn, 1) := by decide +kernel
theorem d_X10_side_94 : decode prog_1_method_19_code 94 = .ok (.aload 4, 2) := by decide +kernel
theorem d_X10_side_96 : decode prog_1_method_19_code 96 = .ok (.getfield 241, 3) := by decide +kernel
theorem d_X10_side_99 : decode prog_1_method_19_code 99 = .ok (.ireturn, 1) := by decide +kernel
def f_X10_side (a0 : Int) (a1 : Int) (a2 : Int) (M0 : tp_M) : Option (Int) :=
  if a2 < 0 then
    some (-1)
  else
    if a2 ≤ 5 then
      (f_X9_sideAt a0 a1 M0).bind fun r3 =>
      if r3 = -1 then
        some (-2)
      else
        if a2 = 0 then
          if tp_tg r3 = 7 then
            some (M0 r3 0) else none
        else if a2 = 1 then
          if tp_tg r3 = 7 then
            some (M0 r3 1) else none
        else if a2 = 2 then
          if tp_tg r3 = 7 then
            some (M0 r3 2) else none
        else if a2 = 3 then
          if tp_tg r3 = 7 then
            some (M0 r3 3) else none
        else if a2 = 4 then
          if tp_tg r3 = 7 then
            some (M0 r3 4) else none
        else 
          if tp_tg r3 = 7 then
            some (M0 r3 5) else none
    else
      some (-1)
set_option maxHeartbeats 4000000 in
set_option maxRecDepth 100000 in
theorem T_X10_side (G : tp_G) (a0 : Int) (a1 : Int) (a2 : Int) (M0 : tp_M) : tp_J i_X10_side (tp_rm 2) G 0 0 (o_X10_side M0) tp_NC (tp_st M0) 0 0 [some (.inr (.inr 0)), some (.inl a0), some (.inl a1), some (.inl a2), none] 0 [] (f_X10_side a0 a1 a2 M0) := by
  unfold f_X10_side
  refine j_iload_n rfl d_X10_side_0 rfl ?_
  refine j_if_lt (tgt := 9) d_X10_side_1 (by decide) (fun h1 => ?_) (fun h1 => ?_)
  · refine j_iconst ⟨by decide, by decide⟩ d_X10_side_9 ?_
    exact j_iret d_X10_side_10 rfl rfl ⟨rfl, rfl⟩
  · refine j_iload_n rfl d_X10_side_4 rfl ?_
    refine j_iconst ⟨by decide, by decide⟩ d_X10_side_5 ?_
    refine j_icmp_le (tgt := 11) d_X10_side_6 (by decide) (fun h2 => ?_) (fun h2 => ?_)
    · refine j_aload_n rfl d_X10_side_11 rfl ?_
      refine j_getr fl_Main_51 tg_0 rv_0_7 d_X10_side_12 ?_
      refine j_iload_n rfl d_X10_side_15 rfl ?_
      refine j_iload_n rfl d_X10_side_16 rfl ?_
      refine j_bind (fun r3 h4 => ?_)
      refine j_callV (y := y_X9_sideAt) (I' := i_X9_sideAt) (avs := [.inl a0, .inl a1]) (c := 41) (st := []) (c_X9_sideAt G a0 a1 M0 r3 h4) cs_Main_220 wd_848 wd_773 wd_774 tg_41 rfl rfl rfl (Nat.le_of_ble_eq_true rfl) ⟨rfl, rfl⟩ ⟨by decide, by decide⟩ ⟨by decide, by decide⟩ d_X10_side_17 ?_
      refine j_astore (lv' := [some (.inr (.inr 0)), some (.inl a0), some (.inl a1), some (.inl a2), some (.inr (.inr r3))]) d_X10_side_20 (Nat.le_of_ble_eq_true rfl) rfl ?_
      refine j_aload d_X10_side_22 rfl ?_
      refine j_ifnonnull (tgt := 30) d_X10_side_24 (by decide) (fun h5 => ?_) (fun h5 => ?_)
      · refine j_bipush ⟨by decide, by decide⟩ (by decide +kernel) d_X10_side_27 ?_
        exact j_iret d_X10_side_29 rfl rfl ⟨rfl, rfl⟩
      · refine j_iload_n rfl d_X10_side_30 rfl ?_
        refine tp_ite (fun h6 => ?_) (fun h6 => ?_)
        · refine j_tsin (tgt := 64) d_X10_side_31 (by omega) (by omega) (off := 33) (by rw [h6]; decide +kernel) (by decide) ?_
          refine j_aload d_X10_side_64 rfl ?_
          refine tp_chk (fun ht7 => ?_)
          refine j_geti fl_Main_224 ht7 d_X10_side_66 ?_
          exact j_iret d_X10_side_69 rfl rfl ⟨rfl, rfl⟩
        refine tp_ite (fun h8 => ?_) (fun h8 => ?_)
        · refine j_tsin (tgt := 70) d_X10_side_31 (by omega) (by omega) (off := 39) (by rw [h8]; decide +kernel) (by decide) ?_
          refine j_aload d_X10_side_70 rfl ?_
          refine tp_chk (fun ht9 => ?_)
          refine j_geti fl_Main_229 ht9 d_X10_side_72 ?_
          exact j_iret d_X10_side_75 rfl rfl ⟨rfl, rfl⟩
        refine tp_ite (fun h10 => ?_) (fun h10 => ?_)
        · refine j_tsin (tgt := 76) d_X10_side_31 (by omega) (by omega) (off := 45) (by rw [h10]; decide +kernel) (by decide) ?_
          refine j_aload d_X10_side_76 rfl ?_
          refine tp_chk (fun ht11 => ?_)
          refine j_geti fl_Main_232 ht11 d_X10_side_78 ?_
          exact j_iret d_X10_side_81 rfl rfl ⟨rfl, rfl⟩
        refine tp_ite (fun h12 => ?_) (fun h12 => ?_)
        · refine j_tsin (tgt := 82) d_X10_side_31 (by omega) (by omega) (off := 51) (by rw [h12]; decide +kernel) (by decide) ?_
          refine j_aload d_X10_side_82 rfl ?_
          refine tp_chk (fun ht13 => ?_)
          refine j_geti fl_Main_235 ht13 d_X10_side_84 ?_
          exact j_iret d_X10_side_87 rfl rfl ⟨rfl, rfl⟩
        refine tp_ite (fun h14 => ?_) (fun h14 => ?_)
        · refine j_tsin (tgt := 88) d_X10_side_31 (by omega) (by omega) (off := 57) (by rw [h14]; decide +kernel) (by decide) ?_
          refine j_aload d_X10_side_88 rfl ?_
          refine tp_chk (fun ht15 => ?_)
          refine j_geti fl_Main_238 ht15 d_X10_side_90 ?_
          exact j_iret d_X10_side_93 rfl rfl ⟨rfl, rfl⟩
        refine j_tsout (tgt := 94) d_X10_side_31 (by omega) (by decide) ?_
        refine j_aload d_X10_side_94 rfl ?_
        refine tp_chk (fun ht16 => ?_)
        refine j_geti fl_Main_241 ht16 d_X10_side_96 ?_
        exact j_iret d_X10_side_99 rfl rfl ⟨rfl, rfl⟩
    · refine j_iconst ⟨by decide, by decide⟩ d_X10_side_9 ?_
      exact j_iret d_X10_side_10 rfl rfl ⟨rfl, rfl⟩
set_option maxHeartbeats 4000000 in
set_option maxRecDepth 100000 in
theorem c_X10_side (G : tp_G) (a0 : Int) (a1 : Int) (a2 : Int) (M0 : tp_M) (r : Int) (h : f_X10_side a0 a1 a2 M0 = some r) (l : Launch) : Met l y_X10_side (tp_ws y_X10_side i_X10_side) (tp_rm 2) (tp_Pc G [.inr (.inr 0), .inl a0, .inl a1, .inl a2] tp_NC (tp_st M0)) (tp_Q G ((o_X10_side M0) r)) 0 0 (tp_A G) :=
  tp_met (I := i_X10_side) (y := y_X10_side) (by decide +kernel) (Eq.refl "TypesAtPrime") (Eq.refl "side") (lv := [some (.inr (.inr 0)), some (.inl a0), some (.inl a1), some (.inl a2), none]) rfl (Nat.le_of_ble_eq_true rfl) (T_X10_side G a0 a1 a2 M0) h l
theorem wd_243 : (.fieldLink "TypesAtPrime" 244 "TypesAtPrime$Side" "residual" "[I" : Cond) ∈ lw_tbl := List.mem_append_right _ (List.mem_of_getElem? (i := 243) (by decide +kernel))
theorem fl_Main_244 : tp_F "TypesAtPrime" 244 7 7 2 := ⟨_, _, _, rfl, by decide, rfl, wd_243, rfl, by decide⟩
def y_X10_residual : MethodName := ⟨"TypesAtPrime", "residual", "(III)I"⟩
abbrev i_X10_residual : tp_I := (prog_1_method_20_code, "TypesAtPrime", (some .int), 5, "residual")
abbrev o_X10_residual (M : tp_M) : Int → tp_O := fun r => (some (.inl r), tp_NC, tp_st M)
theorem d_X10_residual_0 : decode prog_1_method_20_code 0 = .ok (.iload_n 3, 1) := by decide +kernel
theorem d_X10_residual_1 : decode prog_1_method_20_code 1 = .ok (.invokestatic 106, 3) := by decide +kernel
theorem d_X10_residual_4 : decode prog_1_method_20_code 4 = .ok (.ifCond .ne 5, 3) := by decide +kernel
theorem d_X10_residual_7 : decode prog_1_method_20_code 7 = .ok (.iconst (-1), 1) := by decide +kernel
theorem d_X10_residual_8 : decode prog_1_method_20_code 8 = .ok (.ireturn, 1) := by decide +kernel
theorem d_X10_residual_9 : decode prog_1_method_20_code 9 = .ok (.aload_n 0, 1) := by decide +kernel
theorem d_X10_residual_10 : decode prog_1_method_20_code 10 = .ok (.getfield 51, 3) := by decide +kernel
theorem d_X10_residual_13 : decode prog_1_method_20_code 13 = .ok (.iload_n 1, 1) := by decide +kernel
theorem d_X10_residual_14 : decode prog_1_method_20_code 14 = .ok (.iload_n 2, 1) := by decide +kernel
theorem d_X10_residual_15 : decode prog_1_method_20_code 15 = .ok (.invokevirtual 220, 3) := by decide +kernel
theorem d_X10_residual_18 : decode prog_1_method_20_code 18 = .ok (.astore 4, 2) := by decide +kernel
theorem d_X10_residual_20 : decode prog_1_method_20_code 20 = .ok (.aload 4, 2) := by decide +kernel
theorem d_X10_residual_22 : decode prog_1_method_20_code 22 = .ok (.ifnonnull 6, 3) := by decide +kernel
theorem d_X10_residual_25 : decode prog_1_method_20_code 25 = .ok (.bipush (-2), 2) := by decide +kernel
theorem d_X10_residual_27 : decode prog_1_method_20_code 27 = .ok (.ireturn, 1) := by decide +kernel
theorem d_X10_residual_28 : decode prog_1_method_20_code 28 = .ok (.aload 4, 2) := by decide +kernel
theorem d_X10_residual_30 : decode prog_1_method_20_code 30 = .ok (.getfield 244, 3) := by decide +kernel
theorem d_X10_residual_33 : decode prog_1_method_20_code 33 = .ok (.iload_n 3, 1) := by decide +kernel
theorem d_X10_residual_34 : decode prog_1_method_20_code 34 = .ok (.iaload, 1) := by decide +kernel
theorem d_X10_residual_35 : decode prog_1_method_20_code 35 = .ok (.ireturn, 1) := by decide +kernel
def f_X10_residual (a0 : Int) (a1 : Int) (a2 : Int) (M0 : tp_M) : Option (Int) :=
  (f_X10_isPower a2 M0).bind fun r1 =>
  if ¬ r1 = 0 then
    (f_X9_sideAt a0 a1 M0).bind fun r4 =>
    if r4 = -1 then
      some (-2)
    else
      if tp_tg r4 = 7 then
        if 0 ≤ a2 ∧ a2 < 9 then
          some (M0 (r4 + 2) a2) else none else none
  else
    some (-1)
set_option maxHeartbeats 4000000 in
set_option maxRecDepth 100000 in
theorem T_X10_residual (G : tp_G) (a0 : Int) (a1 : Int) (a2 : Int) (M0 : tp_M) : tp_J i_X10_residual (tp_rm 2) G 0 0 (o_X10_residual M0) tp_NC (tp_st M0) 0 0 [some (.inr (.inr 0)), some (.inl a0), some (.inl a1), some (.inl a2), none] 0 [] (f_X10_residual a0 a1 a2 M0) := by
  unfold f_X10_residual
  refine j_iload_n rfl d_X10_residual_0 rfl ?_
  refine j_bind (fun r1 h2 => ?_)
  refine j_callS (y := y_X10_isPower) (I' := i_X10_isPower) (avs := [.inl a2]) (st := []) (c_X10_isPower G a2 M0 r1 h2) cs_Main_106 wd_523 wd_524 rfl rfl (Nat.le_of_ble_eq_true rfl) ⟨rfl, rfl⟩ ⟨by decide, by decide⟩ ⟨by decide, by decide⟩ d_X10_residual_1 ?_
  refine j_if_ne (tgt := 9) d_X10_residual_4 (by decide) (fun h3 => ?_) (fun h3 => ?_)
  · refine j_aload_n rfl d_X10_residual_9 rfl ?_
    refine j_getr fl_Main_51 tg_0 rv_0_7 d_X10_residual_10 ?_
    refine j_iload_n rfl d_X10_residual_13 rfl ?_
    refine j_iload_n rfl d_X10_residual_14 rfl ?_
    refine j_bind (fun r4 h5 => ?_)
    refine j_callV (y := y_X9_sideAt) (I' := i_X9_sideAt) (avs := [.inl a0, .inl a1]) (c := 41) (st := []) (c_X9_sideAt G a0 a1 M0 r4 h5) cs_Main_220 wd_848 wd_773 wd_774 tg_41 rfl rfl rfl (Nat.le_of_ble_eq_true rfl) ⟨rfl, rfl⟩ ⟨by decide, by decide⟩ ⟨by decide, by decide⟩ d_X10_residual_15 ?_
    refine j_astore (lv' := [some (.inr (.inr 0)), some (.inl a0), some (.inl a1), some (.inl a2), some (.inr (.inr r4))]) d_X10_residual_18 (Nat.le_of_ble_eq_true rfl) rfl ?_
    refine j_aload d_X10_residual_20 rfl ?_
    refine j_ifnonnull (tgt := 28) d_X10_residual_22 (by decide) (fun h6 => ?_) (fun h6 => ?_)
    · refine j_bipush ⟨by decide, by decide⟩ (by decide +kernel) d_X10_residual_25 ?_
      exact j_iret d_X10_residual_27 rfl rfl ⟨rfl, rfl⟩
    · refine j_aload d_X10_residual_28 rfl ?_
      refine tp_chk (fun ht7 => ?_)
      refine j_getr fl_Main_244 ht7 (fam_7_7 _ ht7).1 d_X10_residual_30 ?_
      refine j_iload_n rfl d_X10_residual_33 rfl ?_
      refine j_iald ((fam_7_7 _ ht7).2.1) ((fam_7_7 _ ht7).2.2) d_X10_residual_34 ?_
      exact j_iret d_X10_residual_35 rfl rfl ⟨rfl, rfl⟩
  · refine j_iconst ⟨by decide, by decide⟩ d_X10_residual_7 ?_
    exact j_iret d_X10_residual_8 rfl rfl ⟨rfl, rfl⟩
set_option maxHeartbeats 4000000 in
set_option maxRecDepth 100000 in
theorem c_X10_residual (G : tp_G) (a0 : Int) (a1 : Int) (a2 : Int) (M0 : tp_M) (r : Int) (h : f_X10_residual a0 a1 a2 M0 = some r) (l : Launch) : Met l y_X10_residual (tp_ws y_X10_residual i_X10_residual) (tp_rm 2) (tp_Pc G [.inr (.inr 0), .inl a0, .inl a1, .inl a2] tp_NC (tp_st M0)) (tp_Q G ((o_X10_residual M0) r)) 0 0 (tp_A G) :=
  tp_met (I := i_X10_residual) (y := y_X10_residual) (by decide +kernel) (Eq.refl "TypesAtPrime") (Eq.refl "residual") (lv := [some (.inr (.inr 0)), some (.inl a0), some (.inl a1), some (.inl a2), none]) rfl (Nat.le_of_ble_eq_true rfl) (T_X10_residual G a0 a1 a2 M0) h l
theorem wd_240 : (.fieldLink "TypesAtPrime" 247 "TypesAtPrime$Side" "monomial" "[I" : Cond) ∈ lw_tbl := List.mem_append_right _ (List.mem_of_getElem? (i := 240) (by decide +kernel))
theorem fl_Main_247 : tp_F "TypesAtPrime" 247 7 6 2 := ⟨_, _, _, rfl, by decide, rfl, wd_240, rfl, by decide⟩
def y_X10_monomial : MethodName := ⟨"TypesAtPrime", "monomial", "(III)I"⟩
abbrev i_X10_monomial : tp_I := (prog_1_method_21_code, "TypesAtPrime", (some .int), 5, "monomial")
abbrev o_X10_monomial (M : tp_M) : Int → tp_O := fun r => (some (.inl r), tp_NC, tp_st M)
theorem d_X10_monomial_0 : decode prog_1_method_21_code 0 = .ok (.iload_n 3, 1) := by decide +kernel
theorem d_X10_monomial_1 : decode prog_1_method_21_code 1 = .ok (.ifCond .lt 9, 3) := by decide +kernel
theorem d_X10_monomial_4 : decode prog_1_method_21_code 4 = .ok (.iload_n 3, 1) := by decide +kernel
theorem d_X10_monomial_5 : decode prog_1_method_21_code 5 = .ok (.bipush 6, 2) := by decide +kernel
theorem d_X10_monomial_7 : decode prog_1_method_21_code 7 = .ok (.if_icmp .le 5, 3) := by decide +kernel
theorem d_X10_monomial_10 : decode prog_1_method_21_code 10 = .ok (.iconst (-1), 1) := by decide +kernel
theorem d_X10_monomial_11 : decode prog_1_method_21_code 11 = .ok (.ireturn, 1) := by decide +kernel
theorem d_X10_monomial_12 : decode prog_1_method_21_code 12 = .ok (.aload_n 0, 1) := by decide +kernel
theorem d_X10_monomial_13 : decode prog_1_method_21_code 13 = .ok (.getfield 51, 3) := by decide +kernel
theorem d_X10_monomial_16 : decode prog_1_method_21_code 16 = .ok (.iload_n 1, 1) := by decide +kernel
theorem d_X10_monomial_17 : decode prog_1_method_21_code 17 = .ok (.iload_n 2, 1) := by decide +kernel
theorem d_X10_monomial_18 : decode prog_1_method_21_code 18 = .ok (.invokevirtual 220, 3) := by decide +kernel
theorem d_X10_monomial_21 : decode prog_1_method_21_code 21 = .ok (.astore 4, 2) := by decide +kernel
theorem d_X10_monomial_23 : decode prog_1_method_21_code 23 = .ok (.aload 4, 2) := by decide +kernel
theorem d_X10_monomial_25 : decode prog_1_method_21_code 25 = .ok (.ifnonnull 6, 3) := by decide +kernel
theorem d_X10_monomial_28 : decode prog_1_method_21_code 28 = .ok (.bipush (-2), 2) := by decide +kernel
theorem d_X10_monomial_30 : decode prog_1_method_21_code 30 = .ok (.ireturn, 1) := by decide +kernel
theorem d_X10_monomial_31 : decode prog_1_method_21_code 31 = .ok (.aload 4, 2) := by decide +kernel
theorem d_X10_monomial_33 : decode prog_1_method_21_code 33 = .ok (.getfield 247, 3) := by decide +kernel
theorem d_X10_monomial_36 : decode prog_1_method_21_code 36 = .ok (.iload_n 3, 1) := by decide +kernel
theorem d_X10_monomial_37 : decode prog_1_method_21_code 37 = .ok (.iaload, 1) := by decide +kernel
theorem d_X10_monomial_38 : decode prog_1_method_21_code 38 = .ok (.ireturn, 1) := by decide +kernel
def f_X10_monomial (a0 : Int) (a1 : Int) (a2 : Int) (M0 : tp_M) : Option (Int) :=
  if a2 < 0 then
    some (-1)
  else
    if a2 ≤ 6 then
      (f_X9_sideAt a0 a1 M0).bind fun r3 =>
      if r3 = -1 then
        some (-2)
      else
        if tp_tg r3 = 7 then
          if 0 ≤ a2 ∧ a2 < 8 then
            some (M0 (r3 + 1) a2) else none else none
    else
      some (-1)
set_option maxHeartbeats 4000000 in
set_option maxRecDepth 100000 in
theorem T_X10_monomial (G : tp_G) (a0 : Int) (a1 : Int) (a2 : Int) (M0 : tp_M) : tp_J i_X10_monomial (tp_rm 2) G 0 0 (o_X10_monomial M0) tp_NC (tp_st M0) 0 0 [some (.inr (.inr 0)), some (.inl a0), some (.inl a1), some (.inl a2), none] 0 [] (f_X10_monomial a0 a1 a2 M0) := by
  unfold f_X10_monomial
  refine j_iload_n rfl d_X10_monomial_0 rfl ?_
  refine j_if_lt (tgt := 10) d_X10_monomial_1 (by decide) (fun h1 => ?_) (fun h1 => ?_)
  · refine j_iconst ⟨by decide, by decide⟩ d_X10_monomial_10 ?_
    exact j_iret d_X10_monomial_11 rfl rfl ⟨rfl, rfl⟩
  · refine j_iload_n rfl d_X10_monomial_4 rfl ?_
    refine j_bipush ⟨by decide, by decide⟩ (by decide +kernel) d_X10_monomial_5 ?_
    refine j_icmp_le (tgt := 12) d_X10_monomial_7 (by decide) (fun h2 => ?_) (fun h2 => ?_)
    · refine j_aload_n rfl d_X10_monomial_12 rfl ?_
      refine j_getr fl_Main_51 tg_0 rv_0_7 d_X10_monomial_13 ?_
      refine j_iload_n rfl d_X10_monomial_16 rfl ?_
      refine j_iload_n rfl d_X10_monomial_17 rfl ?_
      refine j_bind (fun r3 h4 => ?_)
      refine j_callV (y := y_X9_sideAt) (I' := i_X9_sideAt) (avs := [.inl a0, .inl a1]) (c := 41) (st := []) (c_X9_sideAt G a0 a1 M0 r3 h4) cs_Main_220 wd_848 wd_773 wd_774 tg_41 rfl rfl rfl (Nat.le_of_ble_eq_true rfl) ⟨rfl, rfl⟩ ⟨by decide, by decide⟩ ⟨by decide, by decide⟩ d_X10_monomial_18 ?_
      refine j_astore (lv' := [some (.inr (.inr 0)), some (.inl a0), some (.inl a1), some (.inl a2), some (.inr (.inr r3))]) d_X10_monomial_21 (Nat.le_of_ble_eq_true rfl) rfl ?_
      refine j_aload d_X10_monomial_23 rfl ?_
      refine j_ifnonnull (tgt := 31) d_X10_monomial_25 (by decide) (fun h5 => ?_) (fun h5 => ?_)
      · refine j_bipush ⟨by decide, by decide⟩ (by decide +kernel) d_X10_monomial_28 ?_
        exact j_iret d_X10_monomial_30 rfl rfl ⟨rfl, rfl⟩
      · refine j_aload d_X10_monomial_31 rfl ?_
        refine tp_chk (fun ht6 => ?_)
        refine j_getr fl_Main_247 ht6 (fam_7_6 _ ht6).1 d_X10_monomial_33 ?_
        refine j_iload_n rfl d_X10_monomial_36 rfl ?_
        refine j_iald ((fam_7_6 _ ht6).2.1) ((fam_7_6 _ ht6).2.2) d_X10_monomial_37 ?_
        exact j_iret d_X10_monomial_38 rfl rfl ⟨rfl, rfl⟩
    · refine j_iconst ⟨by decide, by decide⟩ d_X10_monomial_10 ?_
      exact j_iret d_X10_monomial_11 rfl rfl ⟨rfl, rfl⟩
set_option maxHeartbeats 4000000 in
set_option maxRecDepth 100000 in
theorem c_X10_monomial (G : tp_G) (a0 : Int) (a1 : Int) (a2 : Int) (M0 : tp_M) (r : Int) (h : f_X10_monomial a0 a1 a2 M0 = some r) (l : Launch) : Met l y_X10_monomial (tp_ws y_X10_monomial i_X10_monomial) (tp_rm 2) (tp_Pc G [.inr (.inr 0), .inl a0, .inl a1, .inl a2] tp_NC (tp_st M0)) (tp_Q G ((o_X10_monomial M0) r)) 0 0 (tp_A G) :=
  tp_met (I := i_X10_monomial) (y := y_X10_monomial) (by decide +kernel) (Eq.refl "TypesAtPrime") (Eq.refl "monomial") (lv := [some (.inr (.inr 0)), some (.inl a0), some (.inl a1), some (.inl a2), none]) rfl (Nat.le_of_ble_eq_true rfl) (T_X10_monomial G a0 a1 a2 M0) h l
theorem cs_Main_250 : tp_CS "TypesAtPrime" 250 y_X9_leafAt i_X9_leafAt 1 := ⟨wd_654, wd_6, by decide, by decide, by decide +kernel⟩
theorem wd_861 : (.methodLink "TypesAtPrime" 250 ⟨"TypesAtPrime$Tree", "leafAt", "(I)LTypesAtPrime$Leaf;"⟩ : Cond) ∈ lw_tbl := List.mem_append_right _ (List.mem_of_getElem? (i := 861) (by decide +kernel))
theorem wd_267 : (.fieldLink "TypesAtPrime" 254 "TypesAtPrime$Leaf" "kind" "I" : Cond) ∈ lw_tbl := List.mem_append_right _ (List.mem_of_getElem? (i := 267) (by decide +kernel))
theorem fl_Main_254 : tp_F "TypesAtPrime" 254 3 0 0 := ⟨_, _, _, rfl, by decide, rfl, wd_267, rfl, by decide⟩
theorem wd_269 : (.fieldLink "TypesAtPrime" 259 "TypesAtPrime$Leaf" "ramification" "I" : Cond) ∈ lw_tbl := List.mem_append_right _ (List.mem_of_getElem? (i := 269) (by decide +kernel))
theorem fl_Main_259 : tp_F "TypesAtPrime" 259 3 1 0 := ⟨_, _, _, rfl, by decide, rfl, wd_269, rfl, by decide⟩
theorem wd_271 : (.fieldLink "TypesAtPrime" 260 "TypesAtPrime$Leaf" "residueDegree" "I" : Cond) ∈ lw_tbl := List.mem_append_right _ (List.mem_of_getElem? (i := 271) (by decide +kernel))
theorem fl_Main_260 : tp_F "TypesAtPrime" 260 3 2 0 := ⟨_, _, _, rfl, by decide, rfl, wd_271, rfl, by decide⟩
theorem wd_273 : (.fieldLink "TypesAtPrime" 263 "TypesAtPrime$Leaf" "degree" "I" : Cond) ∈ lw_tbl := List.mem_append_right _ (List.mem_of_getElem? (i := 273) (by decide +kernel))
theorem fl_Main_263 : tp_F "TypesAtPrime" 263 3 3 0 := ⟨_, _, _, rfl, by decide, rfl, wd_273, rfl, by decide⟩
theorem wd_275 : (.fieldLink "TypesAtPrime" 264 "TypesAtPrime$Leaf" "knot" "I" : Cond) ∈ lw_tbl := List.mem_append_right _ (List.mem_of_getElem? (i := 275) (by decide +kernel))
theorem fl_Main_264 : tp_F "TypesAtPrime" 264 3 4 0 := ⟨_, _, _, rfl, by decide, rfl, wd_275, rfl, by decide⟩
def y_X10_leaf : MethodName := ⟨"TypesAtPrime", "leaf", "(II)I"⟩
abbrev i_X10_leaf : tp_I := (prog_1_method_22_code, "TypesAtPrime", (some .int), 4, "leaf")
abbrev o_X10_leaf (M : tp_M) : Int → tp_O := fun r => (some (.inl r), tp_NC, tp_st M)
theorem d_X10_leaf_0 : decode prog_1_method_22_code 0 = .ok (.iload_n 2, 1) := by decide +kernel
theorem d_X10_leaf_1 : decode prog_1_method_22_code 1 = .ok (.ifCond .lt 8, 3) := by decide +kernel
theorem d_X10_leaf_4 : decode prog_1_method_22_code 4 = .ok (.iload_n 2, 1) := by decide +kernel
theorem d_X10_leaf_5 : decode prog_1_method_22_code 5 = .ok (.iconst 4, 1) := by decide +kernel
theorem d_X10_leaf_6 : decode prog_1_method_22_code 6 = .ok (.if_icmp .le 5, 3) := by decide +kernel
theorem d_X10_leaf_9 : decode prog_1_method_22_code 9 = .ok (.iconst (-1), 1) := by decide +kernel
theorem d_X10_leaf_10 : decode prog_1_method_22_code 10 = .ok (.ireturn, 1) := by decide +kernel
theorem d_X10_leaf_11 : decode prog_1_method_22_code 11 = .ok (.aload_n 0, 1) := by decide +kernel
theorem d_X10_leaf_12 : decode prog_1_method_22_code 12 = .ok (.getfield 51, 3) := by decide +kernel
theorem d_X10_leaf_15 : decode prog_1_method_22_code 15 = .ok (.iload_n 1, 1) := by decide +kernel
theorem d_X10_leaf_16 : decode prog_1_method_22_code 16 = .ok (.invokevirtual 250, 3) := by decide +kernel
theorem d_X10_leaf_19 : decode prog_1_method_22_code 19 = .ok (.astore_n 3, 1) := by decide +kernel
theorem d_X10_leaf_20 : decode prog_1_method_22_code 20 = .ok (.aload_n 3, 1) := by decide +kernel
theorem d_X10_leaf_21 : decode prog_1_method_22_code 21 = .ok (.ifnonnull 6, 3) := by decide +kernel
theorem d_X10_leaf_24 : decode prog_1_method_22_code 24 = .ok (.bipush (-2), 2) := by decide +kernel
theorem d_X10_leaf_26 : decode prog_1_method_22_code 26 = .ok (.ireturn, 1) := by decide +kernel
theorem d_X10_leaf_27 : decode prog_1_method_22_code 27 = .ok (.iload_n 2, 1) := by decide +kernel
theorem d_X10_leaf_28 : decode prog_1_method_22_code 28 = .ok (.tableswitch 52 0 3 #[32, 37, 42, 47], 32) := by decide +kernel
theorem d_X10_leaf_60 : decode prog_1_method_22_code 60 = .ok (.aload_n 3, 1) := by decide +kernel
theorem d_X10_leaf_61 : decode prog_1_method_22_code 61 = .ok (.getfield 254, 3) := by decide +kernel
theorem d_X10_leaf_64 : decode prog_1_method_22_code 64 = .ok (.ireturn, 1) := by decide +kernel
theorem d_X10_leaf_65 : decode prog_1_method_22_code 65 = .ok (.aload_n 3, 1) := by decide +kernel
theorem d_X10_leaf_66 : decode prog_1_method_22_code 66 = .ok (.getfield 259, 3) := by decide +kernel
theorem d_X10_leaf_69 : decode prog_1_method_22_code 69 = .ok (.ireturn, 1) := by decide +kernel
theorem d_X10_leaf_70 : decode prog_1_method_22_code 70 = .ok (.aload_n 3, 1) := by decide +kernel
theorem d_X10_leaf_71 : decode prog_1_method_22_code 71 = .ok (.getfield 260, 3) := by decide +kernel
theorem d_X10_leaf_74 : decode prog_1_method_22_code 74 = .ok (.ireturn, 1) := by decide +kernel
theorem d_X10_leaf_75 : decode prog_1_method_22_code 75 = .ok (.aload_n 3, 1) := by decide +kernel
theorem d_X10_leaf_76 : decode prog_1_method_22_code 76 = .ok (.getfield 263, 3) := by decide +kernel
theorem d_X10_leaf_79 : decode prog_1_method_22_code 79 = .ok (.ireturn, 1) := by decide +kernel
theorem d_X10_leaf_80 : decode prog_1_method_22_code 80 = .ok (.aload_n 3, 1) := by decide +kernel
theorem d_X10_leaf_81 : decode prog_1_method_22_code 81 = .ok (.getfield 264, 3) := by decide +kernel
theorem d_X10_leaf_84 : decode prog_1_method_22_code 84 = .ok (.ireturn, 1) := by decide +kernel
def f_X10_leaf (a0 : Int) (a1 : Int) (M0 : tp_M) : Option (Int) :=
  if a1 < 0 then
    some (-1)
  else
    if a1 ≤ 4 then
      (f_X9_leafAt a0 M0).bind fun r3 =>
      if r3 = -1 then
        some (-2)
      else
        if a1 = 0 then
          if tp_tg r3 = 3 then
            some (M0 r3 0) else none
        else if a1 = 1 then
          if tp_tg r3 = 3 then
            some (M0 r3 1) else none
        else if a1 = 2 then
          if tp_tg r3 = 3 then
            some (M0 r3 2) else none
        else if a1 = 3 then
          if tp_tg r3 = 3 then
            some (M0 r3 3) else none
        else 
          if tp_tg r3 = 3 then
            some (M0 r3 4) else none
    else
      some (-1)
set_option maxHeartbeats 4000000 in
set_option maxRecDepth 100000 in
theorem T_X10_leaf (G : tp_G) (a0 : Int) (a1 : Int) (M0 : tp_M) : tp_J i_X10_leaf (tp_rm 1) G 0 0 (o_X10_leaf M0) tp_NC (tp_st M0) 0 0 [some (.inr (.inr 0)), some (.inl a0), some (.inl a1), none] 0 [] (f_X10_leaf a0 a1 M0) := by
  unfold f_X10_leaf
  refine j_iload_n rfl d_X10_leaf_0 rfl ?_
  refine j_if_lt (tgt := 9) d_X10_leaf_1 (by decide) (fun h1 => ?_) (fun h1 => ?_)
  · refine j_iconst ⟨by decide, by decide⟩ d_X10_leaf_9 ?_
    exact j_iret d_X10_leaf_10 rfl rfl ⟨rfl, rfl⟩
  · refine j_iload_n rfl d_X10_leaf_4 rfl ?_
    refine j_iconst ⟨by decide, by decide⟩ d_X10_leaf_5 ?_
    refine j_icmp_le (tgt := 11) d_X10_leaf_6 (by decide) (fun h2 => ?_) (fun h2 => ?_)
    · refine j_aload_n rfl d_X10_leaf_11 rfl ?_
      refine j_getr fl_Main_51 tg_0 rv_0_7 d_X10_leaf_12 ?_
      refine j_iload_n rfl d_X10_leaf_15 rfl ?_
      refine j_bind (fun r3 h4 => ?_)
      refine j_callV (y := y_X9_leafAt) (I' := i_X9_leafAt) (avs := [.inl a0]) (c := 41) (st := []) (c_X9_leafAt G a0 M0 r3 h4) cs_Main_250 wd_861 wd_652 wd_653 tg_41 rfl rfl rfl (Nat.le_of_ble_eq_true rfl) ⟨rfl, rfl⟩ ⟨by decide, by decide⟩ ⟨by decide, by decide⟩ d_X10_leaf_16 ?_
      refine j_astore_n (lv' := [some (.inr (.inr 0)), some (.inl a0), some (.inl a1), some (.inr (.inr r3))]) rfl d_X10_leaf_19 (Nat.le_of_ble_eq_true rfl) rfl ?_
      refine j_aload_n rfl d_X10_leaf_20 rfl ?_
      refine j_ifnonnull (tgt := 27) d_X10_leaf_21 (by decide) (fun h5 => ?_) (fun h5 => ?_)
      · refine j_bipush ⟨by decide, by decide⟩ (by decide +kernel) d_X10_leaf_24 ?_
        exact j_iret d_X10_leaf_26 rfl rfl ⟨rfl, rfl⟩
      · refine j_iload_n rfl d_X10_leaf_27 rfl ?_
        refine tp_ite (fun h6 => ?_) (fun h6 => ?_)
        · refine j_tsin (tgt := 60) d_X10_leaf_28 (by omega) (by omega) (off := 32) (by rw [h6]; decide +kernel) (by decide) ?_
          refine j_aload_n rfl d_X10_leaf_60 rfl ?_
          refine tp_chk (fun ht7 => ?_)
          refine j_geti fl_Main_254 ht7 d_X10_leaf_61 ?_
          exact j_iret d_X10_leaf_64 rfl rfl ⟨rfl, rfl⟩
        refine tp_ite (fun h8 => ?_) (fun h8 => ?_)
        · refine j_tsin (tgt := 65) d_X10_leaf_28 (by omega) (by omega) (off := 37) (by rw [h8]; decide +kernel) (by decide) ?_
          refine j_aload_n rfl d_X10_leaf_65 rfl ?_
          refine tp_chk (fun ht9 => ?_)
          refine j_geti fl_Main_259 ht9 d_X10_leaf_66 ?_
          exact j_iret d_X10_leaf_69 rfl rfl ⟨rfl, rfl⟩
        refine tp_ite (fun h10 => ?_) (fun h10 => ?_)
        · refine j_tsin (tgt := 70) d_X10_leaf_28 (by omega) (by omega) (off := 42) (by rw [h10]; decide +kernel) (by decide) ?_
          refine j_aload_n rfl d_X10_leaf_70 rfl ?_
          refine tp_chk (fun ht11 => ?_)
          refine j_geti fl_Main_260 ht11 d_X10_leaf_71 ?_
          exact j_iret d_X10_leaf_74 rfl rfl ⟨rfl, rfl⟩
        refine tp_ite (fun h12 => ?_) (fun h12 => ?_)
        · refine j_tsin (tgt := 75) d_X10_leaf_28 (by omega) (by omega) (off := 47) (by rw [h12]; decide +kernel) (by decide) ?_
          refine j_aload_n rfl d_X10_leaf_75 rfl ?_
          refine tp_chk (fun ht13 => ?_)
          refine j_geti fl_Main_263 ht13 d_X10_leaf_76 ?_
          exact j_iret d_X10_leaf_79 rfl rfl ⟨rfl, rfl⟩
        refine j_tsout (tgt := 80) d_X10_leaf_28 (by omega) (by decide) ?_
        refine j_aload_n rfl d_X10_leaf_80 rfl ?_
        refine tp_chk (fun ht14 => ?_)
        refine j_geti fl_Main_264 ht14 d_X10_leaf_81 ?_
        exact j_iret d_X10_leaf_84 rfl rfl ⟨rfl, rfl⟩
    · refine j_iconst ⟨by decide, by decide⟩ d_X10_leaf_9 ?_
      exact j_iret d_X10_leaf_10 rfl rfl ⟨rfl, rfl⟩
set_option maxHeartbeats 4000000 in
set_option maxRecDepth 100000 in
theorem c_X10_leaf (G : tp_G) (a0 : Int) (a1 : Int) (M0 : tp_M) (r : Int) (h : f_X10_leaf a0 a1 M0 = some r) (l : Launch) : Met l y_X10_leaf (tp_ws y_X10_leaf i_X10_leaf) (tp_rm 1) (tp_Pc G [.inr (.inr 0), .inl a0, .inl a1] tp_NC (tp_st M0)) (tp_Q G ((o_X10_leaf M0) r)) 0 0 (tp_A G) :=
  tp_met (I := i_X10_leaf) (y := y_X10_leaf) (by decide +kernel) (Eq.refl "TypesAtPrime") (Eq.refl "leaf") (lv := [some (.inr (.inr 0)), some (.inl a0), some (.inl a1), none]) rfl (Nat.le_of_ble_eq_true rfl) (T_X10_leaf G a0 a1 M0) h l
theorem wd_301 : (.fieldLink "TypesAtPrime" 267 "TypesAtPrime$Tree" "spelling" "[B" : Cond) ∈ lw_tbl := List.mem_append_right _ (List.mem_of_getElem? (i := 301) (by decide +kernel))
theorem fl_Main_267 : tp_F "TypesAtPrime" 267 9 5 2 := ⟨_, _, _, rfl, by decide, rfl, wd_301, rfl, by decide⟩
def y_X10_spelling : MethodName := ⟨"TypesAtPrime", "spelling", "(I)I"⟩
abbrev i_X10_spelling : tp_I := (prog_1_method_23_code, "TypesAtPrime", (some .int), 2, "spelling")
abbrev o_X10_spelling (M : tp_M) : Int → tp_O := fun r => (some (.inl r), tp_NC, tp_st M)
theorem d_X10_spelling_0 : decode prog_1_method_23_code 0 = .ok (.aload_n 0, 1) := by decide +kernel
theorem d_X10_spelling_1 : decode prog_1_method_23_code 1 = .ok (.getfield 51, 3) := by decide +kernel
theorem d_X10_spelling_4 : decode prog_1_method_23_code 4 = .ok (.getfield 163, 3) := by decide +kernel
theorem d_X10_spelling_7 : decode prog_1_method_23_code 7 = .ok (.ifCond .eq 30, 3) := by decide +kernel
theorem d_X10_spelling_10 : decode prog_1_method_23_code 10 = .ok (.iload_n 1, 1) := by decide +kernel
theorem d_X10_spelling_11 : decode prog_1_method_23_code 11 = .ok (.ifCond .lt 26, 3) := by decide +kernel
theorem d_X10_spelling_14 : decode prog_1_method_23_code 14 = .ok (.iload_n 1, 1) := by decide +kernel
theorem d_X10_spelling_15 : decode prog_1_method_23_code 15 = .ok (.aload_n 0, 1) := by decide +kernel
theorem d_X10_spelling_16 : decode prog_1_method_23_code 16 = .ok (.getfield 51, 3) := by decide +kernel
theorem d_X10_spelling_19 : decode prog_1_method_23_code 19 = .ok (.getfield 183, 3) := by decide +kernel
theorem d_X10_spelling_22 : decode prog_1_method_23_code 22 = .ok (.if_icmp .ge 15, 3) := by decide +kernel
theorem d_X10_spelling_25 : decode prog_1_method_23_code 25 = .ok (.iload_n 1, 1) := by decide +kernel
theorem d_X10_spelling_26 : decode prog_1_method_23_code 26 = .ok (.aload_n 0, 1) := by decide +kernel
theorem d_X10_spelling_27 : decode prog_1_method_23_code 27 = .ok (.getfield 51, 3) := by decide +kernel
theorem d_X10_spelling_30 : decode prog_1_method_23_code 30 = .ok (.getfield 267, 3) := by decide +kernel
theorem d_X10_spelling_33 : decode prog_1_method_23_code 33 = .ok (.arraylength, 1) := by decide +kernel
theorem d_X10_spelling_34 : decode prog_1_method_23_code 34 = .ok (.if_icmp .lt 6, 3) := by decide +kernel
theorem d_X10_spelling_37 : decode prog_1_method_23_code 37 = .ok (.bipush (-2), 2) := by decide +kernel
theorem d_X10_spelling_39 : decode prog_1_method_23_code 39 = .ok (.ireturn, 1) := by decide +kernel
theorem d_X10_spelling_40 : decode prog_1_method_23_code 40 = .ok (.aload_n 0, 1) := by decide +kernel
theorem d_X10_spelling_41 : decode prog_1_method_23_code 41 = .ok (.getfield 51, 3) := by decide +kernel
theorem d_X10_spelling_44 : decode prog_1_method_23_code 44 = .ok (.getfield 267, 3) := by decide +kernel
theorem d_X10_spelling_47 : decode prog_1_method_23_code 47 = .ok (.iload_n 1, 1) := by decide +kernel
theorem d_X10_spelling_48 : decode prog_1_method_23_code 48 = .ok (.baload, 1) := by decide +kernel
theorem d_X10_spelling_49 : decode prog_1_method_23_code 49 = .ok (.ireturn, 1) := by decide +kernel
def f_X10_spelling (a0 : Int) (M0 : tp_M) : Option (Int) :=
  if (M0 41 0) = 0 then
    some (-2)
  else
    if a0 < 0 then
      some (-2)
    else
      if (M0 41 4) ≤ a0 then
        some (-2)
      else
        if a0 < 80 then
          if 0 ≤ a0 ∧ a0 < 80 then
            some (M0 42 a0) else none
        else
          some (-2)
set_option maxHeartbeats 4000000 in
set_option maxRecDepth 100000 in
theorem T_X10_spelling (G : tp_G) (a0 : Int) (M0 : tp_M) : tp_J i_X10_spelling (tp_rm 0) G 0 0 (o_X10_spelling M0) tp_NC (tp_st M0) 0 0 [some (.inr (.inr 0)), some (.inl a0)] 0 [] (f_X10_spelling a0 M0) := by
  unfold f_X10_spelling
  refine j_aload_n rfl d_X10_spelling_0 rfl ?_
  refine j_getr fl_Main_51 tg_0 rv_0_7 d_X10_spelling_1 ?_
  refine j_geti fl_Main_163 tg_41 d_X10_spelling_4 ?_
  refine j_if_eq (tgt := 37) d_X10_spelling_7 (by decide) (fun h1 => ?_) (fun h1 => ?_)
  · refine j_bipush ⟨by decide, by decide⟩ (by decide +kernel) d_X10_spelling_37 ?_
    exact j_iret d_X10_spelling_39 rfl rfl ⟨rfl, rfl⟩
  · refine j_iload_n rfl d_X10_spelling_10 rfl ?_
    refine j_if_lt (tgt := 37) d_X10_spelling_11 (by decide) (fun h2 => ?_) (fun h2 => ?_)
    · refine j_bipush ⟨by decide, by decide⟩ (by decide +kernel) d_X10_spelling_37 ?_
      exact j_iret d_X10_spelling_39 rfl rfl ⟨rfl, rfl⟩
    · refine j_iload_n rfl d_X10_spelling_14 rfl ?_
      refine j_aload_n rfl d_X10_spelling_15 rfl ?_
      refine j_getr fl_Main_51 tg_0 rv_0_7 d_X10_spelling_16 ?_
      refine j_geti fl_Main_183 tg_41 d_X10_spelling_19 ?_
      refine j_icmp_ge (tgt := 37) d_X10_spelling_22 (by decide) (fun h3 => ?_) (fun h3 => ?_)
      · refine j_bipush ⟨by decide, by decide⟩ (by decide +kernel) d_X10_spelling_37 ?_
        exact j_iret d_X10_spelling_39 rfl rfl ⟨rfl, rfl⟩
      · refine j_iload_n rfl d_X10_spelling_25 rfl ?_
        refine j_aload_n rfl d_X10_spelling_26 rfl ?_
        refine j_getr fl_Main_51 tg_0 rv_0_7 d_X10_spelling_27 ?_
        refine j_getr fl_Main_267 tg_41 rv_41_5 d_X10_spelling_30 ?_
        refine j_alen tg_42 (by decide) al_42 ⟨by decide, by decide⟩ (ty := .byte) (by decide) d_X10_spelling_33 ?_
        refine j_icmp_lt (tgt := 40) d_X10_spelling_34 (by decide) (fun h4 => ?_) (fun h4 => ?_)
        · refine j_aload_n rfl d_X10_spelling_40 rfl ?_
          refine j_getr fl_Main_51 tg_0 rv_0_7 d_X10_spelling_41 ?_
          refine j_getr fl_Main_267 tg_41 rv_41_5 d_X10_spelling_44 ?_
          refine j_iload_n rfl d_X10_spelling_47 rfl ?_
          refine j_bald tg_42 al_42 d_X10_spelling_48 ?_
          exact j_iret d_X10_spelling_49 rfl rfl ⟨rfl, rfl⟩
        · refine j_bipush ⟨by decide, by decide⟩ (by decide +kernel) d_X10_spelling_37 ?_
          exact j_iret d_X10_spelling_39 rfl rfl ⟨rfl, rfl⟩
set_option maxHeartbeats 4000000 in
set_option maxRecDepth 100000 in
theorem c_X10_spelling (G : tp_G) (a0 : Int) (M0 : tp_M) (r : Int) (h : f_X10_spelling a0 M0 = some r) (l : Launch) : Met l y_X10_spelling (tp_ws y_X10_spelling i_X10_spelling) (tp_rm 0) (tp_Pc G [.inr (.inr 0), .inl a0] tp_NC (tp_st M0)) (tp_Q G ((o_X10_spelling M0) r)) 0 0 (tp_A G) :=
  tp_met (I := i_X10_spelling) (y := y_X10_spelling) (by decide +kernel) (Eq.refl "TypesAtPrime") (Eq.refl "spelling") (lv := [some (.inr (.inr 0)), some (.inl a0)]) rfl (Nat.le_of_ble_eq_true rfl) (T_X10_spelling G a0 M0) h l
