def y_X10_degreeOf : MethodName := ⟨"TypesAtPrime", "degreeOf", "([I)I"⟩
abbrev i_X10_degreeOf : tp_I := (prog_1_method_37_code, "TypesAtPrime", (some .int), 2, "degreeOf")
abbrev o_X10_degreeOf (M : tp_M) : Int → tp_O := fun r => (some (.inl r), tp_NC, tp_st M)
theorem d_X10_degreeOf_0 : decode prog_1_method_37_code 0 = .ok (.aload_n 0, 1) := by decide +kernel
theorem d_X10_degreeOf_1 : decode prog_1_method_37_code 1 = .ok (.arraylength, 1) := by decide +kernel
theorem d_X10_degreeOf_2 : decode prog_1_method_37_code 2 = .ok (.iconst 1, 1) := by decide +kernel
theorem d_X10_degreeOf_3 : decode prog_1_method_37_code 3 = .ok (.isub, 1) := by decide +kernel
theorem d_X10_degreeOf_4 : decode prog_1_method_37_code 4 = .ok (.istore_n 1, 1) := by decide +kernel
theorem d_X10_degreeOf_5 : decode prog_1_method_37_code 5 = .ok (.iload_n 1, 1) := by decide +kernel
theorem d_X10_degreeOf_6 : decode prog_1_method_37_code 6 = .ok (.ifCond .lt 15, 3) := by decide +kernel
theorem d_X10_degreeOf_9 : decode prog_1_method_37_code 9 = .ok (.aload_n 0, 1) := by decide +kernel
theorem d_X10_degreeOf_10 : decode prog_1_method_37_code 10 = .ok (.iload_n 1, 1) := by decide +kernel
theorem d_X10_degreeOf_11 : decode prog_1_method_37_code 11 = .ok (.iaload, 1) := by decide +kernel
theorem d_X10_degreeOf_12 : decode prog_1_method_37_code 12 = .ok (.ifCond .ne 9, 3) := by decide +kernel
theorem d_X10_degreeOf_15 : decode prog_1_method_37_code 15 = .ok (.iinc 1 (-1), 3) := by decide +kernel
theorem d_X10_degreeOf_18 : decode prog_1_method_37_code 18 = .ok (.goto (-13), 3) := by decide +kernel
theorem d_X10_degreeOf_21 : decode prog_1_method_37_code 21 = .ok (.iload_n 1, 1) := by decide +kernel
theorem d_X10_degreeOf_22 : decode prog_1_method_37_code 22 = .ok (.ireturn, 1) := by decide +kernel
def f_X10_degreeOf_5B (x0 : Int) (M0 : tp_M) (rec_5 : Int → Option (Int)) (x1 : Int) : Option (Int) :=
  if x1 < 0 then
    some x1
  else
    if 0 ≤ x1 ∧ x1 < tp_al x0 then
      if ¬ (M0 x0 x1) = 0 then
        some x1
      else
        tp_lt (tp_w (x1 + (-1))) fun y5 =>
        rec_5 y5 else none
set_option maxHeartbeats 4000000 in
set_option maxRecDepth 100000 in
theorem T_X10_degreeOf_5B (G : tp_G) (x0 : Int) (M0 : tp_M) (hg_x0 : tp_tg x0 = 21) (rec_5 : Int → Option (Int)) (hrec_5 : ∀ (x1' : Int), tp_J i_X10_degreeOf (tp_rm 0) G 0 0 (o_X10_degreeOf M0) tp_NC (tp_st M0) 0 0 [some (.inr (.inr x0)), some (.inl (x1'))] 5 [] (rec_5 x1')) (x1 : Int) : tp_J i_X10_degreeOf (tp_rm 0) G 0 0 (o_X10_degreeOf M0) tp_NC (tp_st M0) 0 0 [some (.inr (.inr x0)), some (.inl x1)] 5 [] (f_X10_degreeOf_5B x0 M0 rec_5 x1) := by
  unfold f_X10_degreeOf_5B
  refine j_iload_n rfl d_X10_degreeOf_5 rfl ?_
  refine j_if_lt (tgt := 21) d_X10_degreeOf_6 (by decide) (fun h3 => ?_) (fun h3 => ?_)
  · refine j_iload_n rfl d_X10_degreeOf_21 rfl ?_
    exact j_iret d_X10_degreeOf_22 rfl rfl ⟨rfl, rfl⟩
  · refine j_aload_n rfl d_X10_degreeOf_9 rfl ?_
    refine j_iload_n rfl d_X10_degreeOf_10 rfl ?_
    refine j_iald hg_x0 rfl d_X10_degreeOf_11 ?_
    refine j_if_ne (tgt := 21) d_X10_degreeOf_12 (by decide) (fun h4 => ?_) (fun h4 => ?_)
    · refine j_iload_n rfl d_X10_degreeOf_21 rfl ?_
      exact j_iret d_X10_degreeOf_22 rfl rfl ⟨rfl, rfl⟩
    · refine j_iincN (lv' := fun y5 => [some (.inr (.inr x0)), some (.inl y5)]) d_X10_degreeOf_15 rfl (Nat.le_of_ble_eq_true rfl) (fun _ => rfl) (fun y5 hy5 => ?_)
      refine j_goto (tgt := 5) d_X10_degreeOf_18 (by decide) ?_
      exact j_wk [true, true] rfl rfl (hrec_5 y5)
def f_X10_degreeOf_5 (x0 : Int) (x1 : Int) (M0 : tp_M) : Option (Int) := tp_lp (σ := Int) (fun rec_ u => f_X10_degreeOf_5B x0 M0 (fun x1' => rec_ x1') u) tp_N x1
set_option maxHeartbeats 4000000 in
set_option maxRecDepth 100000 in
theorem T_X10_degreeOf_5 (G : tp_G) (x0 : Int) (x1 : Int) (M0 : tp_M) (hg_x0 : tp_tg x0 = 21) : tp_J i_X10_degreeOf (tp_rm 0) G 0 0 (o_X10_degreeOf M0) tp_NC (tp_st M0) 0 0 [some (.inr (.inr x0)), some (.inl x1)] 5 [] (f_X10_degreeOf_5 x0 x1 M0) := by
  unfold f_X10_degreeOf_5
  exact j_lp (σ := Int) (n' := fun _ => tp_NC) (g' := fun u => tp_st M0) (k' := fun _ => 0) (q' := fun _ => 0) (lv' := fun u => [some (.inr (.inr x0)), some (.inl u)]) (fun rec_ hrec u => T_X10_degreeOf_5B G x0 M0 hg_x0 (fun x1' => rec_ x1') (fun x1' => hrec x1') u) tp_N x1
def f_X10_degreeOf (a0 : Int) (M0 : tp_M) : Option (Int) :=
  if tp_tg a0 = 21 then
    tp_lt ((tp_w ((tp_al a0) - 1))) fun y2 =>
    f_X10_degreeOf_5 a0 y2 M0 else none
set_option maxHeartbeats 4000000 in
set_option maxRecDepth 100000 in
theorem T_X10_degreeOf (G : tp_G) (a0 : Int) (M0 : tp_M) : tp_J i_X10_degreeOf (tp_rm 0) G 0 0 (o_X10_degreeOf M0) tp_NC (tp_st M0) 0 0 [some (.inr (.inr a0)), none] 0 [] (f_X10_degreeOf a0 M0) := by
  unfold f_X10_degreeOf
  refine tp_chk (fun ht1 => ?_)
  refine j_aload_n rfl d_X10_degreeOf_0 rfl ?_
  refine j_alen ht1 (by decide) rfl (tp_al_r _) (ty := .int) (by decide) d_X10_degreeOf_1 ?_
  refine j_iconst ⟨by decide, by decide⟩ d_X10_degreeOf_2 ?_
  refine j_isub d_X10_degreeOf_3 ?_
  refine j_nmI (fun y2 hy2 => ?_)
  refine j_istore_n (lv' := [some (.inr (.inr a0)), some (.inl y2)]) rfl d_X10_degreeOf_4 (Nat.le_of_ble_eq_true rfl) rfl ?_
  exact j_wk [true, true] rfl rfl (T_X10_degreeOf_5 G a0 y2 M0 ht1)
set_option maxHeartbeats 4000000 in
set_option maxRecDepth 100000 in
theorem c_X10_degreeOf (G : tp_G) (a0 : Int) (M0 : tp_M) (r : Int) (h : f_X10_degreeOf a0 M0 = some r) (l : Launch) : Met l y_X10_degreeOf (tp_ws y_X10_degreeOf i_X10_degreeOf) (tp_rm 0) (tp_Pc G [.inr (.inr a0)] tp_NC (tp_st M0)) (tp_Q G ((o_X10_degreeOf M0) r)) 0 0 (tp_A G) :=
  tp_met (I := i_X10_degreeOf) (y := y_X10_degreeOf) (by decide +kernel) (Eq.refl "TypesAtPrime") (Eq.refl "degreeOf") (lv := [some (.inr (.inr a0)), none]) rfl (Nat.le_of_ble_eq_true rfl) (T_X10_degreeOf G a0 M0) h l
def y_X10_quotient : MethodName := ⟨"TypesAtPrime", "quotient", "(II)I"⟩
abbrev i_X10_quotient : tp_I := (prog_1_method_50_code, "TypesAtPrime", (some .int), 2, "quotient")
abbrev o_X10_quotient (M : tp_M) : Int → tp_O := fun r => (some (.inl r), tp_NC, tp_st M)
theorem d_X10_quotient_0 : decode prog_1_method_50_code 0 = .ok (.iload_n 1, 1) := by decide +kernel
theorem d_X10_quotient_1 : decode prog_1_method_50_code 1 = .ok (.ifCond .ne 7, 3) := by decide +kernel
theorem d_X10_quotient_4 : decode prog_1_method_50_code 4 = .ok (.iconst 0, 1) := by decide +kernel
theorem d_X10_quotient_5 : decode prog_1_method_50_code 5 = .ok (.goto 6, 3) := by decide +kernel
theorem d_X10_quotient_8 : decode prog_1_method_50_code 8 = .ok (.iload_n 0, 1) := by decide +kernel
theorem d_X10_quotient_9 : decode prog_1_method_50_code 9 = .ok (.iload_n 1, 1) := by decide +kernel
theorem d_X10_quotient_10 : decode prog_1_method_50_code 10 = .ok (.idiv, 1) := by decide +kernel
theorem d_X10_quotient_11 : decode prog_1_method_50_code 11 = .ok (.ireturn, 1) := by decide +kernel
def f_X10_quotient (a0 : Int) (a1 : Int) (M0 : tp_M) : Option (Int) :=
  if ¬ a1 = 0 then
    if a1 = 0 then none else
      some (tp_w (Int.tdiv a0 a1))
  else
    some 0
set_option maxHeartbeats 4000000 in
set_option maxRecDepth 100000 in
theorem T_X10_quotient (G : tp_G) (a0 : Int) (a1 : Int) (M0 : tp_M) : tp_J i_X10_quotient (tp_rm 0) G 0 0 (o_X10_quotient M0) tp_NC (tp_st M0) 0 0 [some (.inl a0), some (.inl a1)] 0 [] (f_X10_quotient a0 a1 M0) := by
  unfold f_X10_quotient
  refine j_iload_n rfl d_X10_quotient_0 rfl ?_
  refine j_if_ne (tgt := 8) d_X10_quotient_1 (by decide) (fun h1 => ?_) (fun h1 => ?_)
  · refine j_iload_n rfl d_X10_quotient_8 rfl ?_
    refine j_iload_n rfl d_X10_quotient_9 rfl ?_
    refine j_idiv d_X10_quotient_10 ?_
    exact j_iret d_X10_quotient_11 rfl rfl ⟨rfl, rfl⟩
  · refine j_iconst ⟨by decide, by decide⟩ d_X10_quotient_4 ?_
    refine j_goto (tgt := 11) d_X10_quotient_5 (by decide) ?_
    exact j_iret d_X10_quotient_11 rfl rfl ⟨rfl, rfl⟩
set_option maxHeartbeats 4000000 in
set_option maxRecDepth 100000 in
theorem c_X10_quotient (G : tp_G) (a0 : Int) (a1 : Int) (M0 : tp_M) (r : Int) (h : f_X10_quotient a0 a1 M0 = some r) (l : Launch) : Met l y_X10_quotient (tp_ws y_X10_quotient i_X10_quotient) (tp_rm 0) (tp_Pc G [.inl a0, .inl a1] tp_NC (tp_st M0)) (tp_Q G ((o_X10_quotient M0) r)) 0 0 (tp_A G) :=
  tp_met (I := i_X10_quotient) (y := y_X10_quotient) (by decide +kernel) (Eq.refl "TypesAtPrime") (Eq.refl "quotient") (lv := [some (.inl a0), some (.inl a1)]) rfl (Nat.le_of_ble_eq_true rfl) (T_X10_quotient G a0 a1 M0) h l
def y_X10_remainder : MethodName := ⟨"TypesAtPrime", "remainder", "(II)I"⟩
abbrev i_X10_remainder : tp_I := (prog_1_method_51_code, "TypesAtPrime", (some .int), 2, "remainder")
abbrev o_X10_remainder (M : tp_M) : Int → tp_O := fun r => (some (.inl r), tp_NC, tp_st M)
theorem d_X10_remainder_0 : decode prog_1_method_51_code 0 = .ok (.iload_n 1, 1) := by decide +kernel
theorem d_X10_remainder_1 : decode prog_1_method_51_code 1 = .ok (.ifCond .ne 7, 3) := by decide +kernel
theorem d_X10_remainder_4 : decode prog_1_method_51_code 4 = .ok (.iconst 0, 1) := by decide +kernel
theorem d_X10_remainder_5 : decode prog_1_method_51_code 5 = .ok (.goto 6, 3) := by decide +kernel
theorem d_X10_remainder_8 : decode prog_1_method_51_code 8 = .ok (.iload_n 0, 1) := by decide +kernel
theorem d_X10_remainder_9 : decode prog_1_method_51_code 9 = .ok (.iload_n 1, 1) := by decide +kernel
theorem d_X10_remainder_10 : decode prog_1_method_51_code 10 = .ok (.irem, 1) := by decide +kernel
theorem d_X10_remainder_11 : decode prog_1_method_51_code 11 = .ok (.ireturn, 1) := by decide +kernel
def f_X10_remainder (a0 : Int) (a1 : Int) (M0 : tp_M) : Option (Int) :=
  if ¬ a1 = 0 then
    if a1 = 0 then none else
      some (Int.tmod a0 a1)
  else
    some 0
set_option maxHeartbeats 4000000 in
set_option maxRecDepth 100000 in
theorem T_X10_remainder (G : tp_G) (a0 : Int) (a1 : Int) (M0 : tp_M) : tp_J i_X10_remainder (tp_rm 0) G 0 0 (o_X10_remainder M0) tp_NC (tp_st M0) 0 0 [some (.inl a0), some (.inl a1)] 0 [] (f_X10_remainder a0 a1 M0) := by
  unfold f_X10_remainder
  refine j_iload_n rfl d_X10_remainder_0 rfl ?_
  refine j_if_ne (tgt := 8) d_X10_remainder_1 (by decide) (fun h1 => ?_) (fun h1 => ?_)
  · refine j_iload_n rfl d_X10_remainder_8 rfl ?_
    refine j_iload_n rfl d_X10_remainder_9 rfl ?_
    refine j_irem d_X10_remainder_10 ?_
    exact j_iret d_X10_remainder_11 rfl rfl ⟨rfl, rfl⟩
  · refine j_iconst ⟨by decide, by decide⟩ d_X10_remainder_4 ?_
    refine j_goto (tgt := 11) d_X10_remainder_5 (by decide) ?_
    exact j_iret d_X10_remainder_11 rfl rfl ⟨rfl, rfl⟩
set_option maxHeartbeats 4000000 in
set_option maxRecDepth 100000 in
theorem c_X10_remainder (G : tp_G) (a0 : Int) (a1 : Int) (M0 : tp_M) (r : Int) (h : f_X10_remainder a0 a1 M0 = some r) (l : Launch) : Met l y_X10_remainder (tp_ws y_X10_remainder i_X10_remainder) (tp_rm 0) (tp_Pc G [.inl a0, .inl a1] tp_NC (tp_st M0)) (tp_Q G ((o_X10_remainder M0) r)) 0 0 (tp_A G) :=
  tp_met (I := i_X10_remainder) (y := y_X10_remainder) (by decide +kernel) (Eq.refl "TypesAtPrime") (Eq.refl "remainder") (lv := [some (.inl a0), some (.inl a1)]) rfl (Nat.le_of_ble_eq_true rfl) (T_X10_remainder G a0 a1 M0) h l
def y_X10_isSlot : MethodName := ⟨"TypesAtPrime", "isSlot", "(I)Z"⟩
abbrev i_X10_isSlot : tp_I := (prog_1_method_34_code, "TypesAtPrime", (some .boolean), 1, "isSlot")
abbrev o_X10_isSlot (M : tp_M) : Int → tp_O := fun r => (some (.inl r), tp_NC, tp_st M)
theorem d_X10_isSlot_0 : decode prog_1_method_34_code 0 = .ok (.iload_n 0, 1) := by decide +kernel
theorem d_X10_isSlot_1 : decode prog_1_method_34_code 1 = .ok (.ifCond .lt 12, 3) := by decide +kernel
theorem d_X10_isSlot_4 : decode prog_1_method_34_code 4 = .ok (.iload_n 0, 1) := by decide +kernel
theorem d_X10_isSlot_5 : decode prog_1_method_34_code 5 = .ok (.iconst 5, 1) := by decide +kernel
theorem d_X10_isSlot_6 : decode prog_1_method_34_code 6 = .ok (.if_icmp .ge 7, 3) := by decide +kernel
theorem d_X10_isSlot_9 : decode prog_1_method_34_code 9 = .ok (.iconst 1, 1) := by decide +kernel
theorem d_X10_isSlot_10 : decode prog_1_method_34_code 10 = .ok (.goto 4, 3) := by decide +kernel
theorem d_X10_isSlot_13 : decode prog_1_method_34_code 13 = .ok (.iconst 0, 1) := by decide +kernel
theorem d_X10_isSlot_14 : decode prog_1_method_34_code 14 = .ok (.ireturn, 1) := by decide +kernel
def f_X10_isSlot (a0 : Int) (M0 : tp_M) : Option (Int) :=
  if a0 < 0 then
    some 0
  else
    if 5 ≤ a0 then
      some 0
    else
      some 1
set_option maxHeartbeats 4000000 in
set_option maxRecDepth 100000 in
theorem T_X10_isSlot (G : tp_G) (a0 : Int) (M0 : tp_M) : tp_J i_X10_isSlot (tp_rm 0) G 0 0 (o_X10_isSlot M0) tp_NC (tp_st M0) 0 0 [some (.inl a0)] 0 [] (f_X10_isSlot a0 M0) := by
  unfold f_X10_isSlot
  refine j_iload_n rfl d_X10_isSlot_0 rfl ?_
  refine j_if_lt (tgt := 13) d_X10_isSlot_1 (by decide) (fun h1 => ?_) (fun h1 => ?_)
  · refine j_iconst ⟨by decide, by decide⟩ d_X10_isSlot_13 ?_
    exact j_zret d_X10_isSlot_14 rfl (Or.inl rfl) rfl ⟨rfl, rfl⟩
  · refine j_iload_n rfl d_X10_isSlot_4 rfl ?_
    refine j_iconst ⟨by decide, by decide⟩ d_X10_isSlot_5 ?_
    refine j_icmp_ge (tgt := 13) d_X10_isSlot_6 (by decide) (fun h2 => ?_) (fun h2 => ?_)
    · refine j_iconst ⟨by decide, by decide⟩ d_X10_isSlot_13 ?_
      exact j_zret d_X10_isSlot_14 rfl (Or.inl rfl) rfl ⟨rfl, rfl⟩
    · refine j_iconst ⟨by decide, by decide⟩ d_X10_isSlot_9 ?_
      refine j_goto (tgt := 14) d_X10_isSlot_10 (by decide) ?_
      exact j_zret d_X10_isSlot_14 rfl (Or.inr rfl) rfl ⟨rfl, rfl⟩
set_option maxHeartbeats 4000000 in
set_option maxRecDepth 100000 in
theorem c_X10_isSlot (G : tp_G) (a0 : Int) (M0 : tp_M) (r : Int) (h : f_X10_isSlot a0 M0 = some r) (l : Launch) : Met l y_X10_isSlot (tp_ws y_X10_isSlot i_X10_isSlot) (tp_rm 0) (tp_Pc G [.inl a0] tp_NC (tp_st M0)) (tp_Q G ((o_X10_isSlot M0) r)) 0 0 (tp_A G) :=
  tp_met (I := i_X10_isSlot) (y := y_X10_isSlot) (by decide +kernel) (Eq.refl "TypesAtPrime") (Eq.refl "isSlot") (lv := [some (.inl a0)]) rfl (Nat.le_of_ble_eq_true rfl) (T_X10_isSlot G a0 M0) h l
theorem tg_1 : tp_tg 1 = 4 := by decide +kernel
theorem wd_40 : (.fieldLink "TypesAtPrime$Numbers" 18 "TypesAtPrime$Numbers" "size" "J" : Cond) ∈ lw_tbl := List.mem_append_right _ (List.mem_of_getElem? (i := 40) (by decide +kernel))
theorem fl_Numbers_18 : tp_F "TypesAtPrime$Numbers" 18 4 2 1 := ⟨_, _, _, rfl, by decide, rfl, wd_40, rfl, by decide⟩
def y_X4_rest : MethodName := ⟨"TypesAtPrime$Numbers", "rest", "(J)J"⟩
abbrev i_X4_rest : tp_I := (prog_6_method_3_code, "TypesAtPrime$Numbers", (some .long), 5, "rest")
abbrev o_X4_rest (M : tp_M) : Int → tp_O := fun r => (some (.inr (.inl r)), tp_NC, tp_st M)
theorem d_X4_rest_0 : decode prog_6_method_3_code 0 = .ok (.aload_n 0, 1) := by decide +kernel
theorem d_X4_rest_1 : decode prog_6_method_3_code 1 = .ok (.getfield 18, 3) := by decide +kernel
theorem d_X4_rest_4 : decode prog_6_method_3_code 4 = .ok (.lconst 0, 1) := by decide +kernel
theorem d_X4_rest_5 : decode prog_6_method_3_code 5 = .ok (.lcmp, 1) := by decide +kernel
theorem d_X4_rest_6 : decode prog_6_method_3_code 6 = .ok (.ifCond .gt 5, 3) := by decide +kernel
theorem d_X4_rest_9 : decode prog_6_method_3_code 9 = .ok (.lconst 0, 1) := by decide +kernel
theorem d_X4_rest_10 : decode prog_6_method_3_code 10 = .ok (.lreturn, 1) := by decide +kernel
theorem d_X4_rest_11 : decode prog_6_method_3_code 11 = .ok (.lload_n 1, 1) := by decide +kernel
theorem d_X4_rest_12 : decode prog_6_method_3_code 12 = .ok (.aload_n 0, 1) := by decide +kernel
theorem d_X4_rest_13 : decode prog_6_method_3_code 13 = .ok (.getfield 18, 3) := by decide +kernel
theorem d_X4_rest_16 : decode prog_6_method_3_code 16 = .ok (.lrem, 1) := by decide +kernel
theorem d_X4_rest_17 : decode prog_6_method_3_code 17 = .ok (.lstore_n 3, 1) := by decide +kernel
theorem d_X4_rest_18 : decode prog_6_method_3_code 18 = .ok (.lload_n 3, 1) := by decide +kernel
theorem d_X4_rest_19 : decode prog_6_method_3_code 19 = .ok (.lconst 0, 1) := by decide +kernel
theorem d_X4_rest_20 : decode prog_6_method_3_code 20 = .ok (.lcmp, 1) := by decide +kernel
theorem d_X4_rest_21 : decode prog_6_method_3_code 21 = .ok (.ifCond .ge 12, 3) := by decide +kernel
theorem d_X4_rest_24 : decode prog_6_method_3_code 24 = .ok (.lload_n 3, 1) := by decide +kernel
theorem d_X4_rest_25 : decode prog_6_method_3_code 25 = .ok (.aload_n 0, 1) := by decide +kernel
theorem d_X4_rest_26 : decode prog_6_method_3_code 26 = .ok (.getfield 18, 3) := by decide +kernel
theorem d_X4_rest_29 : decode prog_6_method_3_code 29 = .ok (.ladd, 1) := by decide +kernel
theorem d_X4_rest_30 : decode prog_6_method_3_code 30 = .ok (.goto 4, 3) := by decide +kernel
theorem d_X4_rest_33 : decode prog_6_method_3_code 33 = .ok (.lload_n 3, 1) := by decide +kernel
theorem d_X4_rest_34 : decode prog_6_method_3_code 34 = .ok (.lreturn, 1) := by decide +kernel
def f_X4_rest (a0 : Int) (M0 : tp_M) : Option (Int) :=
  if 0 < (M0 1 2) then
    if (M0 1 2) = 0 then none else
      tp_lt ((Int.tmod a0 (M0 1 2))) fun y2 =>
      if 0 ≤ y2 then
        some y2
      else
        some (tp_wl (y2 + (M0 1 2)))
  else
    some 0
set_option maxHeartbeats 4000000 in
set_option maxRecDepth 100000 in
theorem T_X4_rest (G : tp_G) (a0 : Int) (M0 : tp_M) : tp_J i_X4_rest (tp_rm 0) G 0 0 (o_X4_rest M0) tp_NC (tp_st M0) 0 0 [some (.inr (.inr 1)), some (.inr (.inl a0)), none, none, none] 0 [] (f_X4_rest a0 M0) := by
  unfold f_X4_rest
  refine j_aload_n rfl d_X4_rest_0 rfl ?_
  refine j_getl fl_Numbers_18 tg_1 d_X4_rest_1 ?_
  refine j_lconst (x := 0) ⟨by decide, by decide⟩ (by decide +kernel) d_X4_rest_4 ?_
  refine j_lcmp_gt (tgt := 11) d_X4_rest_5 rfl d_X4_rest_6 (by decide) (fun h1 => ?_) (fun h1 => ?_)
  · refine j_lload_n rfl d_X4_rest_11 rfl ?_
    refine j_aload_n rfl d_X4_rest_12 rfl ?_
    refine j_getl fl_Numbers_18 tg_1 d_X4_rest_13 ?_
    refine j_lrem d_X4_rest_16 ?_
    refine j_nmL (fun y2 hy2 => ?_)
    refine j_lstore_n (lv' := [some (.inr (.inr 1)), some (.inr (.inl a0)), none, some (.inr (.inl y2)), none]) rfl d_X4_rest_17 (Nat.le_of_ble_eq_true rfl) rfl ?_
    refine j_lload_n rfl d_X4_rest_18 rfl ?_
    refine j_lconst (x := 0) ⟨by decide, by decide⟩ (by decide +kernel) d_X4_rest_19 ?_
    refine j_lcmp_ge (tgt := 33) d_X4_rest_20 rfl d_X4_rest_21 (by decide) (fun h3 => ?_) (fun h3 => ?_)
    · refine j_lload_n rfl d_X4_rest_33 rfl ?_
      exact j_lret d_X4_rest_34 rfl rfl ⟨rfl, rfl⟩
    · refine j_lload_n rfl d_X4_rest_24 rfl ?_
      refine j_aload_n rfl d_X4_rest_25 rfl ?_
      refine j_getl fl_Numbers_18 tg_1 d_X4_rest_26 ?_
      refine j_ladd d_X4_rest_29 ?_
      refine j_goto (tgt := 34) d_X4_rest_30 (by decide) ?_
      exact j_lret d_X4_rest_34 rfl rfl ⟨rfl, rfl⟩
  · refine j_lconst (x := 0) ⟨by decide, by decide⟩ (by decide +kernel) d_X4_rest_9 ?_
    exact j_lret d_X4_rest_10 rfl rfl ⟨rfl, rfl⟩
set_option maxHeartbeats 4000000 in
set_option maxRecDepth 100000 in
theorem c_X4_rest (G : tp_G) (a0 : Int) (M0 : tp_M) (r : Int) (h : f_X4_rest a0 M0 = some r) (l : Launch) : Met l y_X4_rest (tp_ws y_X4_rest i_X4_rest) (tp_rm 0) (tp_Pc G [.inr (.inr 1), .inr (.inl a0)] tp_NC (tp_st M0)) (tp_Q G ((o_X4_rest M0) r)) 0 0 (tp_A G) :=
  tp_met (I := i_X4_rest) (y := y_X4_rest) (by decide +kernel) (Eq.refl "TypesAtPrime$Numbers") (Eq.refl "rest") (lv := [some (.inr (.inr 1)), some (.inr (.inl a0)), none, none, none]) rfl (Nat.le_of_ble_eq_true rfl) (T_X4_rest G a0 M0) h l
theorem wd_564 : (.code ⟨"TypesAtPrime$Numbers", "rest", "(J)J"⟩ prog_6_method_3_code 5 (some .long) : Cond) ∈ lw_tbl := List.mem_append_right _ (List.mem_of_getElem? (i := 564) (by decide +kernel))
theorem wd_2 : (.initialized "TypesAtPrime$Numbers" : Cond) ∈ lw_tbl := List.mem_append_right _ (List.mem_of_getElem? (i := 2) (by decide +kernel))
theorem cs_Numbers_35 : tp_CS "TypesAtPrime$Numbers" 35 y_X4_rest i_X4_rest 1 := ⟨wd_564, wd_2, by decide, by decide, by decide +kernel⟩
theorem wd_569 : (.methodLink "TypesAtPrime$Numbers" 35 ⟨"TypesAtPrime$Numbers", "rest", "(J)J"⟩ : Cond) ∈ lw_tbl := List.mem_append_right _ (List.mem_of_getElem? (i := 569) (by decide +kernel))
theorem wd_562 : (.instanceMethod ⟨"TypesAtPrime$Numbers", "rest", "(J)J"⟩ : Cond) ∈ lw_tbl := List.mem_append_right _ (List.mem_of_getElem? (i := 562) (by decide +kernel))
theorem wd_563 : (.selects "TypesAtPrime$Numbers" ⟨"TypesAtPrime$Numbers", "rest", "(J)J"⟩ ⟨"TypesAtPrime$Numbers", "rest", "(J)J"⟩ : Cond) ∈ lw_tbl := List.mem_append_right _ (List.mem_of_getElem? (i := 563) (by decide +kernel))
def y_X4_expand : MethodName := ⟨"TypesAtPrime$Numbers", "expand", "([JII[JI)V"⟩
abbrev i_X4_expand : tp_I := (prog_6_method_7_code, "TypesAtPrime$Numbers", none, 13, "expand")
abbrev o_X4_expand : tp_M → tp_O := fun r => (none, tp_NC, tp_st r)
theorem d_X4_expand_0 : decode prog_6_method_7_code 0 = .ok (.iload_n 2, 1) := by decide +kernel
theorem d_X4_expand_1 : decode prog_6_method_7_code 1 = .ok (.iload_n 3, 1) := by decide +kernel
theorem d_X4_expand_2 : decode prog_6_method_7_code 2 = .ok (.iadd, 1) := by decide +kernel
theorem d_X4_expand_3 : decode prog_6_method_7_code 3 = .ok (.istore 6, 2) := by decide +kernel
theorem d_X4_expand_5 : decode prog_6_method_7_code 5 = .ok (.iload_n 2, 1) := by decide +kernel
theorem d_X4_expand_6 : decode prog_6_method_7_code 6 = .ok (.ifCond .lt 28, 3) := by decide +kernel
theorem d_X4_expand_9 : decode prog_6_method_7_code 9 = .ok (.iload_n 3, 1) := by decide +kernel
theorem d_X4_expand_10 : decode prog_6_method_7_code 10 = .ok (.ifCond .lt 24, 3) := by decide +kernel
theorem d_X4_expand_13 : decode prog_6_method_7_code 13 = .ok (.iload 6, 2) := by decide +kernel
theorem d_X4_expand_15 : decode prog_6_method_7_code 15 = .ok (.aload_n 1, 1) := by decide +kernel
theorem d_X4_expand_16 : decode prog_6_method_7_code 16 = .ok (.arraylength, 1) := by decide +kernel
theorem d_X4_expand_17 : decode prog_6_method_7_code 17 = .ok (.if_icmp .gt 17, 3) := by decide +kernel
theorem d_X4_expand_20 : decode prog_6_method_7_code 20 = .ok (.iload 5, 2) := by decide +kernel
theorem d_X4_expand_22 : decode prog_6_method_7_code 22 = .ok (.iconst 1, 1) := by decide +kernel
theorem d_X4_expand_23 : decode prog_6_method_7_code 23 = .ok (.if_icmp .lt 11, 3) := by decide +kernel
theorem d_X4_expand_26 : decode prog_6_method_7_code 26 = .ok (.iload 5, 2) := by decide +kernel
theorem d_X4_expand_28 : decode prog_6_method_7_code 28 = .ok (.aload 4, 2) := by decide +kernel
theorem d_X4_expand_30 : decode prog_6_method_7_code 30 = .ok (.arraylength, 1) := by decide +kernel
theorem d_X4_expand_31 : decode prog_6_method_7_code 31 = .ok (.if_icmp .lt 4, 3) := by decide +kernel
theorem d_X4_expand_34 : decode prog_6_method_7_code 34 = .ok (.return_, 1) := by decide +kernel
theorem d_X4_expand_35 : decode prog_6_method_7_code 35 = .ok (.iload_n 2, 1) := by decide +kernel
theorem d_X4_expand_36 : decode prog_6_method_7_code 36 = .ok (.istore 7, 2) := by decide +kernel
theorem d_X4_expand_38 : decode prog_6_method_7_code 38 = .ok (.iload 7, 2) := by decide +kernel
theorem d_X4_expand_40 : decode prog_6_method_7_code 40 = .ok (.iload 5, 2) := by decide +kernel
theorem d_X4_expand_42 : decode prog_6_method_7_code 42 = .ok (.iadd, 1) := by decide +kernel
theorem d_X4_expand_43 : decode prog_6_method_7_code 43 = .ok (.iload 6, 2) := by decide +kernel
theorem d_X4_expand_45 : decode prog_6_method_7_code 45 = .ok (.if_icmp .ge 101, 3) := by decide +kernel
theorem d_X4_expand_48 : decode prog_6_method_7_code 48 = .ok (.iload 6, 2) := by decide +kernel
theorem d_X4_expand_50 : decode prog_6_method_7_code 50 = .ok (.iconst 1, 1) := by decide +kernel
theorem d_X4_expand_51 : decode prog_6_method_7_code 51 = .ok (.isub, 1) := by decide +kernel
theorem d_X4_expand_52 : decode prog_6_method_7_code 52 = .ok (.istore 8, 2) := by decide +kernel
theorem d_X4_expand_54 : decode prog_6_method_7_code 54 = .ok (.iload 8, 2) := by decide +kernel
theorem d_X4_expand_56 : decode prog_6_method_7_code 56 = .ok (.iload 7, 2) := by decide +kernel
theorem d_X4_expand_58 : decode prog_6_method_7_code 58 = .ok (.iload 5, 2) := by decide +kernel
theorem d_X4_expand_60 : decode prog_6_method_7_code 60 = .ok (.iadd, 1) := by decide +kernel
theorem d_X4_expand_61 : decode prog_6_method_7_code 61 = .ok (.if_icmp .lt 75, 3) := by decide +kernel
theorem d_X4_expand_64 : decode prog_6_method_7_code 64 = .ok (.aload_n 1, 1) := by decide +kernel
theorem d_X4_expand_65 : decode prog_6_method_7_code 65 = .ok (.iload 8, 2) := by decide +kernel
theorem d_X4_expand_67 : decode prog_6_method_7_code 67 = .ok (.laload, 1) := by decide +kernel
theorem d_X4_expand_68 : decode prog_6_method_7_code 68 = .ok (.lstore 9, 2) := by decide +kernel
theorem d_X4_expand_70 : decode prog_6_method_7_code 70 = .ok (.lload 9, 2) := by decide +kernel
theorem d_X4_expand_72 : decode prog_6_method_7_code 72 = .ok (.lconst 0, 1) := by decide +kernel
theorem d_X4_expand_73 : decode prog_6_method_7_code 73 = .ok (.lcmp, 1) := by decide +kernel
theorem d_X4_expand_74 : decode prog_6_method_7_code 74 = .ok (.ifCond .ne 6, 3) := by decide +kernel
theorem d_X4_expand_77 : decode prog_6_method_7_code 77 = .ok (.goto 53, 3) := by decide +kernel
theorem d_X4_expand_80 : decode prog_6_method_7_code 80 = .ok (.iload 8, 2) := by decide +kernel
theorem d_X4_expand_82 : decode prog_6_method_7_code 82 = .ok (.iload 5, 2) := by decide +kernel
theorem d_X4_expand_84 : decode prog_6_method_7_code 84 = .ok (.isub, 1) := by decide +kernel
theorem d_X4_expand_85 : decode prog_6_method_7_code 85 = .ok (.istore 11, 2) := by decide +kernel
theorem d_X4_expand_87 : decode prog_6_method_7_code 87 = .ok (.iconst 0, 1) := by decide +kernel
theorem d_X4_expand_88 : decode prog_6_method_7_code 88 = .ok (.istore 12, 2) := by decide +kernel
theorem d_X4_expand_90 : decode prog_6_method_7_code 90 = .ok (.iload 12, 2) := by decide +kernel
theorem d_X4_expand_92 : decode prog_6_method_7_code 92 = .ok (.iload 5, 2) := by decide +kernel
theorem d_X4_expand_94 : decode prog_6_method_7_code 94 = .ok (.if_icmp .ge 36, 3) := by decide +kernel
theorem d_X4_expand_97 : decode prog_6_method_7_code 97 = .ok (.aload_n 1, 1) := by decide +kernel
theorem d_X4_expand_98 : decode prog_6_method_7_code 98 = .ok (.iload 11, 2) := by decide +kernel
theorem d_X4_expand_100 : decode prog_6_method_7_code 100 = .ok (.iload 12, 2) := by decide +kernel
theorem d_X4_expand_102 : decode prog_6_method_7_code 102 = .ok (.iadd, 1) := by decide +kernel
theorem d_X4_expand_103 : decode prog_6_method_7_code 103 = .ok (.aload_n 0, 1) := by decide +kernel
theorem d_X4_expand_104 : decode prog_6_method_7_code 104 = .ok (.aload_n 1, 1) := by decide +kernel
theorem d_X4_expand_105 : decode prog_6_method_7_code 105 = .ok (.iload 11, 2) := by decide +kernel
theorem d_X4_expand_107 : decode prog_6_method_7_code 107 = .ok (.iload 12, 2) := by decide +kernel
theorem d_X4_expand_109 : decode prog_6_method_7_code 109 = .ok (.iadd, 1) := by decide +kernel
theorem d_X4_expand_110 : decode prog_6_method_7_code 110 = .ok (.laload, 1) := by decide +kernel
theorem d_X4_expand_111 : decode prog_6_method_7_code 111 = .ok (.lload 9, 2) := by decide +kernel
theorem d_X4_expand_113 : decode prog_6_method_7_code 113 = .ok (.aload 4, 2) := by decide +kernel
theorem d_X4_expand_115 : decode prog_6_method_7_code 115 = .ok (.iload 12, 2) := by decide +kernel
theorem d_X4_expand_117 : decode prog_6_method_7_code 117 = .ok (.laload, 1) := by decide +kernel
theorem d_X4_expand_118 : decode prog_6_method_7_code 118 = .ok (.lmul, 1) := by decide +kernel
theorem d_X4_expand_119 : decode prog_6_method_7_code 119 = .ok (.lsub, 1) := by decide +kernel
theorem d_X4_expand_120 : decode prog_6_method_7_code 120 = .ok (.invokevirtual 35, 3) := by decide +kernel
theorem d_X4_expand_123 : decode prog_6_method_7_code 123 = .ok (.lastore, 1) := by decide +kernel
theorem d_X4_expand_124 : decode prog_6_method_7_code 124 = .ok (.iinc 12 1, 3) := by decide +kernel
theorem d_X4_expand_127 : decode prog_6_method_7_code 127 = .ok (.goto (-37), 3) := by decide +kernel
theorem d_X4_expand_130 : decode prog_6_method_7_code 130 = .ok (.iinc 8 (-1), 3) := by decide +kernel
theorem d_X4_expand_133 : decode prog_6_method_7_code 133 = .ok (.goto (-79), 3) := by decide +kernel
theorem d_X4_expand_136 : decode prog_6_method_7_code 136 = .ok (.iload 7, 2) := by decide +kernel
theorem d_X4_expand_138 : decode prog_6_method_7_code 138 = .ok (.iload 5, 2) := by decide +kernel
theorem d_X4_expand_140 : decode prog_6_method_7_code 140 = .ok (.iadd, 1) := by decide +kernel
theorem d_X4_expand_141 : decode prog_6_method_7_code 141 = .ok (.istore 7, 2) := by decide +kernel
theorem d_X4_expand_143 : decode prog_6_method_7_code 143 = .ok (.goto (-105), 3) := by decide +kernel
theorem d_X4_expand_146 : decode prog_6_method_7_code 146 = .ok (.return_, 1) := by decide +kernel
def f_X4_expand_130 (rec_38 : Int → tp_M → Option (tp_M)) (rec_54 : Int → tp_M → Option (tp_M)) (x1 : Int) (x4 : Int) (x5 : Int) (x6 : Int) (x7 : Int) (x8 : Int) (M0 : tp_M) : Option (tp_M) :=
  tp_lt (tp_w (x8 + (-1))) fun y17 =>
  rec_54 y17 M0
set_option maxHeartbeats 4000000 in
set_option maxRecDepth 100000 in
theorem T_X4_expand_130 (G : tp_G) (rec_38 : Int → tp_M → Option (tp_M)) (rec_54 : Int → tp_M → Option (tp_M)) (x1 : Int) (x4 : Int) (x5 : Int) (x6 : Int) (x7 : Int) (x8 : Int) (M0 : tp_M) (hrec_38 : ∀ (x7' : Int) (M' : tp_M), tp_J i_X4_expand (tp_rm 1) G 0 0 o_X4_expand tp_NC (tp_st M') 0 0 [some (.inr (.inr 1)), some (.inr (.inr x1)), none, none, some (.inr (.inr x4)), some (.inl x5), some (.inl x6), some (.inl (x7')), none, none, none, none, none] 38 [] (rec_38 x7' M')) (hrec_54 : ∀ (x8' : Int) (M' : tp_M), tp_J i_X4_expand (tp_rm 1) G 0 0 o_X4_expand tp_NC (tp_st M') 0 0 [some (.inr (.inr 1)), some (.inr (.inr x1)), none, none, some (.inr (.inr x4)), some (.inl x5), some (.inl x6), some (.inl x7), some (.inl (x8')), none, none, none, none] 54 [] (rec_54 x8' M')) (hg_x1 : tp_tg x1 = 22) (hg_x4 : tp_tg x4 = 22) : tp_J i_X4_expand (tp_rm 1) G 0 0 o_X4_expand tp_NC (tp_st M0) 0 0 [some (.inr (.inr 1)), some (.inr (.inr x1)), none, none, some (.inr (.inr x4)), some (.inl x5), some (.inl x6), some (.inl x7), some (.inl x8), none, none, none, none] 130 [] (f_X4_expand_130 rec_38 rec_54 x1 x4 x5 x6 x7 x8 M0) := by
  unfold f_X4_expand_130
  refine j_iincN (lv' := fun y17 => [some (.inr (.inr 1)), some (.inr (.inr x1)), none, none, some (.inr (.inr x4)), some (.inl x5), some (.inl x6), some (.inl x7), some (.inl y17), none, none, none, none]) d_X4_expand_130 rfl (Nat.le_of_ble_eq_true rfl) (fun _ => rfl) (fun y17 hy17 => ?_)
  refine j_goto (tgt := 54) d_X4_expand_133 (by decide) ?_
  exact j_wk [true, true, false, false, true, true, true, true, true, false, false, false, false] rfl rfl (hrec_54 y17 M0)
def f_X4_expand_90B (rec_38 : Int → tp_M → Option (tp_M)) (rec_54 : Int → tp_M → Option (tp_M)) (x1 : Int) (x4 : Int) (x5 : Int) (x6 : Int) (x7 : Int) (x8 : Int) (x9 : Int) (x11 : Int) (rec_90 : Int → tp_M → Option (tp_M)) (x12 : Int) (M0 : tp_M) : Option (tp_M) :=
  if x5 ≤ x12 then
    f_X4_expand_130 rec_38 rec_54 x1 x4 x5 x6 x7 x8 M0
  else
    if 0 ≤ (tp_w (x11 + x12)) ∧ (tp_w (x11 + x12)) < tp_al x1 then
      if 0 ≤ x12 ∧ x12 < tp_al x4 then
        (f_X4_rest (tp_wl ((M0 x1 (tp_w (x11 + x12))) - (tp_wl (x9 * (M0 x4 x12))))) M0).bind fun r18 =>
        if 0 ≤ (tp_w (x11 + x12)) ∧ (tp_w (x11 + x12)) < tp_al x1 then
          tp_mp (tp_up M0 x1 (tp_w (x11 + x12)) r18) fun M20 =>
          tp_lt (tp_w (x12 + 1)) fun y21 =>
          rec_90 y21 M20 else none else none else none
set_option maxHeartbeats 4000000 in
set_option maxRecDepth 100000 in
theorem T_X4_expand_90B (G : tp_G) (rec_38 : Int → tp_M → Option (tp_M)) (rec_54 : Int → tp_M → Option (tp_M)) (x1 : Int) (x4 : Int) (x5 : Int) (x6 : Int) (x7 : Int) (x8 : Int) (x9 : Int) (x11 : Int) (hrec_38 : ∀ (x7' : Int) (M' : tp_M), tp_J i_X4_expand (tp_rm 1) G 0 0 o_X4_expand tp_NC (tp_st M') 0 0 [some (.inr (.inr 1)), some (.inr (.inr x1)), none, none, some (.inr (.inr x4)), some (.inl x5), some (.inl x6), some (.inl (x7')), none, none, none, none, none] 38 [] (rec_38 x7' M')) (hrec_54 : ∀ (x8' : Int) (M' : tp_M), tp_J i_X4_expand (tp_rm 1) G 0 0 o_X4_expand tp_NC (tp_st M') 0 0 [some (.inr (.inr 1)), some (.inr (.inr x1)), none, none, some (.inr (.inr x4)), some (.inl x5), some (.inl x6), some (.inl x7), some (.inl (x8')), none, none, none, none] 54 [] (rec_54 x8' M')) (hg_x1 : tp_tg x1 = 22) (hg_x4 : tp_tg x4 = 22) (rec_90 : Int → tp_M → Option (tp_M)) (hrec_90 : ∀ (x12' : Int) (M' : tp_M), tp_J i_X4_expand (tp_rm 1) G 0 0 o_X4_expand tp_NC (tp_st M') 0 0 [some (.inr (.inr 1)), some (.inr (.inr x1)), none, none, some (.inr (.inr x4)), some (.inl x5), some (.inl x6), some (.inl x7), some (.inl x8), some (.inr (.inl x9)), none, some (.inl x11), some (.inl (x12'))] 90 [] (rec_90 x12' M')) (x12 : Int) (M0 : tp_M) : tp_J i_X4_expand (tp_rm 1) G 0 0 o_X4_expand tp_NC (tp_st M0) 0 0 [some (.inr (.inr 1)), some (.inr (.inr x1)), none, none, some (.inr (.inr x4)), some (.inl x5), some (.inl x6), some (.inl x7), some (.inl x8), some (.inr (.inl x9)), none, some (.inl x11), some (.inl x12)] 90 [] (f_X4_expand_90B rec_38 rec_54 x1 x4 x5 x6 x7 x8 x9 x11 rec_90 x12 M0) := by
  unfold f_X4_expand_90B
  refine j_iload d_X4_expand_90 rfl ?_
  refine j_iload d_X4_expand_92 rfl ?_
  refine j_icmp_ge (tgt := 130) d_X4_expand_94 (by decide) (fun h16 => ?_) (fun h16 => ?_)
  · exact j_wk [true, true, false, false, true, true, true, true, true, false, false, false, false] rfl rfl (T_X4_expand_130 G rec_38 rec_54 x1 x4 x5 x6 x7 x8 M0 hrec_38 hrec_54 hg_x1 hg_x4)
  · refine j_aload_n rfl d_X4_expand_97 rfl ?_
    refine j_iload d_X4_expand_98 rfl ?_
    refine j_iload d_X4_expand_100 rfl ?_
    refine j_iadd d_X4_expand_102 ?_
    refine j_aload_n rfl d_X4_expand_103 rfl ?_
    refine j_aload_n rfl d_X4_expand_104 rfl ?_
    refine j_iload d_X4_expand_105 rfl ?_
    refine j_iload d_X4_expand_107 rfl ?_
    refine j_iadd d_X4_expand_109 ?_
    refine j_lald hg_x1 rfl d_X4_expand_110 ?_
    refine j_lload d_X4_expand_111 rfl ?_
    refine j_aload d_X4_expand_113 rfl ?_
    refine j_iload d_X4_expand_115 rfl ?_
    refine j_lald hg_x4 rfl d_X4_expand_117 ?_
    refine j_lmul d_X4_expand_118 ?_
    refine j_lsub d_X4_expand_119 ?_
    refine j_bind (fun r18 h19 => ?_)
    refine j_callV (y := y_X4_rest) (I' := i_X4_rest) (avs := [.inr (.inl (tp_wl ((M0 x1 (tp_w (x11 + x12))) - (tp_wl (x9 * (M0 x4 x12))))))]) (c := 1) (st := [.inl (tp_w (x11 + x12)), .inr (.inr x1)]) (c_X4_rest G (tp_wl ((M0 x1 (tp_w (x11 + x12))) - (tp_wl (x9 * (M0 x4 x12))))) M0 r18 h19) cs_Numbers_35 wd_569 wd_562 wd_563 tg_1 rfl rfl rfl (Nat.le_of_ble_eq_true rfl) ⟨rfl, rfl⟩ ⟨by decide, by decide⟩ ⟨by decide, by decide⟩ d_X4_expand_120 ?_
    refine j_last hg_x1 rfl d_X4_expand_123 (fun M20 hM20 => ?_)
    refine j_iincN (lv' := fun y21 => [some (.inr (.inr 1)), some (.inr (.inr x1)), none, none, some (.inr (.inr x4)), some (.inl x5), some (.inl x6), some (.inl x7), some (.inl x8), some (.inr (.inl x9)), none, some (.inl x11), some (.inl y21)]) d_X4_expand_124 rfl (Nat.le_of_ble_eq_true rfl) (fun _ => rfl) (fun y21 hy21 => ?_)
    refine j_goto (tgt := 90) d_X4_expand_127 (by decide) ?_
    exact j_wk [true, true, false, false, true, true, true, true, true, true, false, true, true] rfl rfl (hrec_90 y21 M20)
def f_X4_expand_90 (rec_38 : Int → tp_M → Option (tp_M)) (rec_54 : Int → tp_M → Option (tp_M)) (x1 : Int) (x4 : Int) (x5 : Int) (x6 : Int) (x7 : Int) (x8 : Int) (x9 : Int) (x11 : Int) (x12 : Int) (M0 : tp_M) : Option (tp_M) := tp_lp (σ := Int × tp_M) (fun rec_ u => f_X4_expand_90B rec_38 rec_54 x1 x4 x5 x6 x7 x8 x9 x11 (fun x12' M0' => rec_ (x12', M0')) u.1 u.2) tp_N (x12, M0)
set_option maxHeartbeats 4000000 in
set_option maxRecDepth 100000 in
theorem T_X4_expand_90 (G : tp_G) (rec_38 : Int → tp_M → Option (tp_M)) (rec_54 : Int → tp_M → Option (tp_M)) (x1 : Int) (x4 : Int) (x5 : Int) (x6 : Int) (x7 : Int) (x8 : Int) (x9 : Int) (x11 : Int) (x12 : Int) (M0 : tp_M) (hrec_38 : ∀ (x7' : Int) (M' : tp_M), tp_J i_X4_expand (tp_rm 1) G 0 0 o_X4_expand tp_NC (tp_st M') 0 0 [some (.inr (.inr 1)), some (.inr (.inr x1)), none, none, some (.inr (.inr x4)), some (.inl x5), some (.inl x6), some (.inl (x7')), none, none, none, none, none] 38 [] (rec_38 x7' M')) (hrec_54 : ∀ (x8' : Int) (M' : tp_M), tp_J i_X4_expand (tp_rm 1) G 0 0 o_X4_expand tp_NC (tp_st M') 0 0 [some (.inr (.inr 1)), some (.inr (.inr x1)), none, none, some (.inr (.inr x4)), some (.inl x5), some (.inl x6), some (.inl x7), some (.inl (x8')), none, none, none, none] 54 [] (rec_54 x8' M')) (hg_x1 : tp_tg x1 = 22) (hg_x4 : tp_tg x4 = 22) : tp_J i_X4_expand (tp_rm 1) G 0 0 o_X4_expand tp_NC (tp_st M0) 0 0 [some (.inr (.inr 1)), some (.inr (.inr x1)), none, none, some (.inr (.inr x4)), some (.inl x5), some (.inl x6), some (.inl x7), some (.inl x8), some (.inr (.inl x9)), none, some (.inl x11), some (.inl x12)] 90 [] (f_X4_expand_90 rec_38 rec_54 x1 x4 x5 x6 x7 x8 x9 x11 x12 M0) := by
  unfold f_X4_expand_90
  exact j_lp (σ := Int × tp_M) (n' := fun _ => tp_NC) (g' := fun u => tp_st u.2) (k' := fun _ => 0) (q' := fun _ => 0) (lv' := fun u => [some (.inr (.inr 1)), some (.inr (.inr x1)), none, none, some (.inr (.inr x4)), some (.inl x5), some (.inl x6), some (.inl x7), some (.inl x8), some (.inr (.inl x9)), none, some (.inl x11), some (.inl u.1)]) (fun rec_ hrec u => T_X4_expand_90B G rec_38 rec_54 x1 x4 x5 x6 x7 x8 x9 x11 hrec_38 hrec_54 hg_x1 hg_x4 (fun x12' M0' => rec_ (x12', M0')) (fun x12' M0' => hrec (x12', M0')) u.1 u.2) tp_N (x12, M0)
def f_X4_expand_54B (rec_38 : Int → tp_M → Option (tp_M)) (x1 : Int) (x4 : Int) (x5 : Int) (x6 : Int) (x7 : Int) (rec_54 : Int → tp_M → Option (tp_M)) (x8 : Int) (M0 : tp_M) : Option (tp_M) :=
  if x8 < (tp_w (x7 + x5)) then
    tp_lt ((tp_w (x7 + x5))) fun y12 =>
    rec_38 y12 M0
  else
    if 0 ≤ x8 ∧ x8 < tp_al x1 then
      tp_lt ((M0 x1 x8)) fun y13 =>
      if ¬ y13 = 0 then
        tp_lt ((tp_w (x8 - x5))) fun y15 =>
        f_X4_expand_90 rec_38 rec_54 x1 x4 x5 x6 x7 x8 y13 y15 0 M0
      else
        f_X4_expand_130 rec_38 rec_54 x1 x4 x5 x6 x7 x8 M0 else none
set_option maxHeartbeats 4000000 in
set_option maxRecDepth 100000 in
theorem T_X4_expand_54B (G : tp_G) (rec_38 : Int → tp_M → Option (tp_M)) (x1 : Int) (x4 : Int) (x5 : Int) (x6 : Int) (x7 : Int) (hrec_38 : ∀ (x7' : Int) (M' : tp_M), tp_J i_X4_expand (tp_rm 1) G 0 0 o_X4_expand tp_NC (tp_st M') 0 0 [some (.inr (.inr 1)), some (.inr (.inr x1)), none, none, some (.inr (.inr x4)), some (.inl x5), some (.inl x6), some (.inl (x7')), none, none, none, none, none] 38 [] (rec_38 x7' M')) (hg_x1 : tp_tg x1 = 22) (hg_x4 : tp_tg x4 = 22) (rec_54 : Int → tp_M → Option (tp_M)) (hrec_54 : ∀ (x8' : Int) (M' : tp_M), tp_J i_X4_expand (tp_rm 1) G 0 0 o_X4_expand tp_NC (tp_st M') 0 0 [some (.inr (.inr 1)), some (.inr (.inr x1)), none, none, some (.inr (.inr x4)), some (.inl x5), some (.inl x6), some (.inl x7), some (.inl (x8')), none, none, none, none] 54 [] (rec_54 x8' M')) (x8 : Int) (M0 : tp_M) : tp_J i_X4_expand (tp_rm 1) G 0 0 o_X4_expand tp_NC (tp_st M0) 0 0 [some (.inr (.inr 1)), some (.inr (.inr x1)), none, none, some (.inr (.inr x4)), some (.inl x5), some (.inl x6), some (.inl x7), some (.inl x8), none, none, none, none] 54 [] (f_X4_expand_54B rec_38 x1 x4 x5 x6 x7 rec_54 x8 M0) := by
  unfold f_X4_expand_54B
  refine j_iload d_X4_expand_54 rfl ?_
  refine j_iload d_X4_expand_56 rfl ?_
  refine j_iload d_X4_expand_58 rfl ?_
  refine j_iadd d_X4_expand_60 ?_
  refine j_icmp_lt (tgt := 136) d_X4_expand_61 (by decide) (fun h11 => ?_) (fun h11 => ?_)
  · refine j_iload d_X4_expand_136 rfl ?_
    refine j_iload d_X4_expand_138 rfl ?_
    refine j_iadd d_X4_expand_140 ?_
    refine j_nmI (fun y12 hy12 => ?_)
    refine j_istore (lv' := [some (.inr (.inr 1)), some (.inr (.inr x1)), none, none, some (.inr (.inr x4)), some (.inl x5), some (.inl x6), some (.inl y12), some (.inl x8), none, none, none, none]) d_X4_expand_141 (Nat.le_of_ble_eq_true rfl) rfl ?_
    refine j_goto (tgt := 38) d_X4_expand_143 (by decide) ?_
    exact j_wk [true, true, false, false, true, true, true, true, false, false, false, false, false] rfl rfl (hrec_38 y12 M0)
  · refine j_aload_n rfl d_X4_expand_64 rfl ?_
    refine j_iload d_X4_expand_65 rfl ?_
    refine j_lald hg_x1 rfl d_X4_expand_67 ?_
    refine j_nmL (fun y13 hy13 => ?_)
    refine j_lstore (lv' := [some (.inr (.inr 1)), some (.inr (.inr x1)), none, none, some (.inr (.inr x4)), some (.inl x5), some (.inl x6), some (.inl x7), some (.inl x8), some (.inr (.inl y13)), none, none, none]) d_X4_expand_68 (Nat.le_of_ble_eq_true rfl) rfl ?_
    refine j_lload d_X4_expand_70 rfl ?_
    refine j_lconst (x := 0) ⟨by decide, by decide⟩ (by decide +kernel) d_X4_expand_72 ?_
    refine j_lcmp_ne (tgt := 80) d_X4_expand_73 rfl d_X4_expand_74 (by decide) (fun h14 => ?_) (fun h14 => ?_)
    · refine j_iload d_X4_expand_80 rfl ?_
      refine j_iload d_X4_expand_82 rfl ?_
      refine j_isub d_X4_expand_84 ?_
      refine j_nmI (fun y15 hy15 => ?_)
      refine j_istore (lv' := [some (.inr (.inr 1)), some (.inr (.inr x1)), none, none, some (.inr (.inr x4)), some (.inl x5), some (.inl x6), some (.inl x7), some (.inl x8), some (.inr (.inl y13)), none, some (.inl y15), none]) d_X4_expand_85 (Nat.le_of_ble_eq_true rfl) rfl ?_
      refine j_iconst ⟨by decide, by decide⟩ d_X4_expand_87 ?_
      refine j_istore (lv' := [some (.inr (.inr 1)), some (.inr (.inr x1)), none, none, some (.inr (.inr x4)), some (.inl x5), some (.inl x6), some (.inl x7), some (.inl x8), some (.inr (.inl y13)), none, some (.inl y15), some (.inl 0)]) d_X4_expand_88 (Nat.le_of_ble_eq_true rfl) rfl ?_
      exact j_wk [true, true, false, false, true, true, true, true, true, true, false, true, true] rfl rfl (T_X4_expand_90 G rec_38 rec_54 x1 x4 x5 x6 x7 x8 y13 y15 0 M0 hrec_38 hrec_54 hg_x1 hg_x4)
    · refine j_goto (tgt := 130) d_X4_expand_77 (by decide) ?_
      exact j_wk [true, true, false, false, true, true, true, true, true, false, false, false, false] rfl rfl (T_X4_expand_130 G rec_38 rec_54 x1 x4 x5 x6 x7 x8 M0 hrec_38 hrec_54 hg_x1 hg_x4)
def f_X4_expand_54 (rec_38 : Int → tp_M → Option (tp_M)) (x1 : Int) (x4 : Int) (x5 : Int) (x6 : Int) (x7 : Int) (x8 : Int) (M0 : tp_M) : Option (tp_M) := tp_lp (σ := Int × tp_M) (fun rec_ u => f_X4_expand_54B rec_38 x1 x4 x5 x6 x7 (fun x8' M0' => rec_ (x8', M0')) u.1 u.2) tp_N (x8, M0)
set_option maxHeartbeats 4000000 in
set_option maxRecDepth 100000 in
theorem T_X4_expand_54 (G : tp_G) (rec_38 : Int → tp_M → Option (tp_M)) (x1 : Int) (x4 : Int) (x5 : Int) (x6 : Int) (x7 : Int) (x8 : Int) (M0 : tp_M) (hrec_38 : ∀ (x7' : Int) (M' : tp_M), tp_J i_X4_expand (tp_rm 1) G 0 0 o_X4_expand tp_NC (tp_st M') 0 0 [some (.inr (.inr 1)), some (.inr (.inr x1)), none, none, some (.inr (.inr x4)), some (.inl x5), some (.inl x6), some (.inl (x7')), none, none, none, none, none] 38 [] (rec_38 x7' M')) (hg_x1 : tp_tg x1 = 22) (hg_x4 : tp_tg x4 = 22) : tp_J i_X4_expand (tp_rm 1) G 0 0 o_X4_expand tp_NC (tp_st M0) 0 0 [some (.inr (.inr 1)), some (.inr (.inr x1)), none, none, some (.inr (.inr x4)), some (.inl x5), some (.inl x6), some (.inl x7), some (.inl x8), none, none, none, none] 54 [] (f_X4_expand_54 rec_38 x1 x4 x5 x6 x7 x8 M0) := by
  unfold f_X4_expand_54
  exact j_lp (σ := Int × tp_M) (n' := fun _ => tp_NC) (g' := fun u => tp_st u.2) (k' := fun _ => 0) (q' := fun _ => 0) (lv' := fun u => [some (.inr (.inr 1)), some (.inr (.inr x1)), none, none, some (.inr (.inr x4)), some (.inl x5), some (.inl x6), some (.inl x7), some (.inl u.1), none, none, none, none]) (fun rec_ hrec u => T_X4_expand_54B G rec_38 x1 x4 x5 x6 x7 hrec_38 hg_x1 hg_x4 (fun x8' M0' => rec_ (x8', M0')) (fun x8' M0' => hrec (x8', M0')) u.1 u.2) tp_N (x8, M0)
def f_X4_expand_38B (x1 : Int) (x4 : Int) (x5 : Int) (x6 : Int) (rec_38 : Int → tp_M → Option (tp_M)) (x7 : Int) (M0 : tp_M) : Option (tp_M) :=
  if x6 ≤ (tp_w (x7 + x5)) then
    some M0
  else
    tp_lt ((tp_w (x6 - 1))) fun y10 =>
    f_X4_expand_54 rec_38 x1 x4 x5 x6 x7 y10 M0
set_option maxHeartbeats 4000000 in
set_option maxRecDepth 100000 in
theorem T_X4_expand_38B (G : tp_G) (x1 : Int) (x4 : Int) (x5 : Int) (x6 : Int) (hg_x1 : tp_tg x1 = 22) (hg_x4 : tp_tg x4 = 22) (rec_38 : Int → tp_M → Option (tp_M)) (hrec_38 : ∀ (x7' : Int) (M' : tp_M), tp_J i_X4_expand (tp_rm 1) G 0 0 o_X4_expand tp_NC (tp_st M') 0 0 [some (.inr (.inr 1)), some (.inr (.inr x1)), none, none, some (.inr (.inr x4)), some (.inl x5), some (.inl x6), some (.inl (x7')), none, none, none, none, none] 38 [] (rec_38 x7' M')) (x7 : Int) (M0 : tp_M) : tp_J i_X4_expand (tp_rm 1) G 0 0 o_X4_expand tp_NC (tp_st M0) 0 0 [some (.inr (.inr 1)), some (.inr (.inr x1)), none, none, some (.inr (.inr x4)), some (.inl x5), some (.inl x6), some (.inl x7), none, none, none, none, none] 38 [] (f_X4_expand_38B x1 x4 x5 x6 rec_38 x7 M0) := by
  unfold f_X4_expand_38B
  refine j_iload d_X4_expand_38 rfl ?_
  refine j_iload d_X4_expand_40 rfl ?_
  refine j_iadd d_X4_expand_42 ?_
  refine j_iload d_X4_expand_43 rfl ?_
  refine j_icmp_ge (tgt := 146) d_X4_expand_45 (by decide) (fun h9 => ?_) (fun h9 => ?_)
  · exact j_vret d_X4_expand_146 rfl rfl ⟨rfl, rfl⟩
  · refine j_iload d_X4_expand_48 rfl ?_
    refine j_iconst ⟨by decide, by decide⟩ d_X4_expand_50 ?_
    refine j_isub d_X4_expand_51 ?_
    refine j_nmI (fun y10 hy10 => ?_)
    refine j_istore (lv' := [some (.inr (.inr 1)), some (.inr (.inr x1)), none, none, some (.inr (.inr x4)), some (.inl x5), some (.inl x6), some (.inl x7), some (.inl y10), none, none, none, none]) d_X4_expand_52 (Nat.le_of_ble_eq_true rfl) rfl ?_
    exact j_wk [true, true, false, false, true, true, true, true, true, false, false, false, false] rfl rfl (T_X4_expand_54 G rec_38 x1 x4 x5 x6 x7 y10 M0 hrec_38 hg_x1 hg_x4)
def f_X4_expand_38 (x1 : Int) (x4 : Int) (x5 : Int) (x6 : Int) (x7 : Int) (M0 : tp_M) : Option (tp_M) := tp_lp (σ := Int × tp_M) (fun rec_ u => f_X4_expand_38B x1 x4 x5 x6 (fun x7' M0' => rec_ (x7', M0')) u.1 u.2) tp_N (x7, M0)
set_option maxHeartbeats 4000000 in
set_option maxRecDepth 100000 in
theorem T_X4_expand_38 (G : tp_G) (x1 : Int) (x4 : Int) (x5 : Int) (x6 : Int) (x7 : Int) (M0 : tp_M) (hg_x1 : tp_tg x1 = 22) (hg_x4 : tp_tg x4 = 22) : tp_J i_X4_expand (tp_rm 1) G 0 0 o_X4_expand tp_NC (tp_st M0) 0 0 [some (.inr (.inr 1)), some (.inr (.inr x1)), none, none, some (.inr (.inr x4)), some (.inl x5), some (.inl x6), some (.inl x7), none, none, none, none, none] 38 [] (f_X4_expand_38 x1 x4 x5 x6 x7 M0) := by
  unfold f_X4_expand_38
  exact j_lp (σ := Int × tp_M) (n' := fun _ => tp_NC) (g' := fun u => tp_st u.2) (k' := fun _ => 0) (q' := fun _ => 0) (lv' := fun u => [some (.inr (.inr 1)), some (.inr (.inr x1)), none, none, some (.inr (.inr x4)), some (.inl x5), some (.inl x6), some (.inl u.1), none, none, none, none, none]) (fun rec_ hrec u => T_X4_expand_38B G x1 x4 x5 x6 hg_x1 hg_x4 (fun x7' M0' => rec_ (x7', M0')) (fun x7' M0' => hrec (x7', M0')) u.1 u.2) tp_N (x7, M0)
def f_X4_expand (a0 : Int) (a1 : Int) (a2 : Int) (a3 : Int) (a4 : Int) (M0 : tp_M) : Option (tp_M) :=
  if tp_tg a0 = 22 then
    if tp_tg a3 = 22 then
      tp_lt ((tp_w (a1 + a2))) fun y3 =>
      if a1 < 0 then
        some M0
      else
        if a2 < 0 then
          some M0
        else
          if (tp_al a0) < y3 then
            some M0
          else
            if a4 < 1 then
              some M0
            else
              if a4 < (tp_al a3) then
                f_X4_expand_38 a0 a3 a4 y3 a1 M0
              else
                some M0 else none else none
set_option maxHeartbeats 4000000 in
set_option maxRecDepth 100000 in
theorem T_X4_expand (G : tp_G) (a0 : Int) (a1 : Int) (a2 : Int) (a3 : Int) (a4 : Int) (M0 : tp_M) : tp_J i_X4_expand (tp_rm 1) G 0 0 o_X4_expand tp_NC (tp_st M0) 0 0 [some (.inr (.inr 1)), some (.inr (.inr a0)), some (.inl a1), some (.inl a2), some (.inr (.inr a3)), some (.inl a4), none, none, none, none, none, none, none] 0 [] (f_X4_expand a0 a1 a2 a3 a4 M0) := by
  unfold f_X4_expand
  refine tp_chk (fun ht1 => ?_)
  refine tp_chk (fun ht2 => ?_)
  refine j_iload_n rfl d_X4_expand_0 rfl ?_
  refine j_iload_n rfl d_X4_expand_1 rfl ?_
  refine j_iadd d_X4_expand_2 ?_
  refine j_nmI (fun y3 hy3 => ?_)
  refine j_istore (lv' := [some (.inr (.inr 1)), some (.inr (.inr a0)), some (.inl a1), some (.inl a2), some (.inr (.inr a3)), some (.inl a4), some (.inl y3), none, none, none, none, none, none]) d_X4_expand_3 (Nat.le_of_ble_eq_true rfl) rfl ?_
  refine j_iload_n rfl d_X4_expand_5 rfl ?_
  refine j_if_lt (tgt := 34) d_X4_expand_6 (by decide) (fun h4 => ?_) (fun h4 => ?_)
  · exact j_vret d_X4_expand_34 rfl rfl ⟨rfl, rfl⟩
  · refine j_iload_n rfl d_X4_expand_9 rfl ?_
    refine j_if_lt (tgt := 34) d_X4_expand_10 (by decide) (fun h5 => ?_) (fun h5 => ?_)
    · exact j_vret d_X4_expand_34 rfl rfl ⟨rfl, rfl⟩
    · refine j_iload d_X4_expand_13 rfl ?_
      refine j_aload_n rfl d_X4_expand_15 rfl ?_
      refine j_alen ht1 (by decide) rfl (tp_al_r _) (ty := .long) (by decide) d_X4_expand_16 ?_
      refine j_icmp_gt (tgt := 34) d_X4_expand_17 (by decide) (fun h6 => ?_) (fun h6 => ?_)
      · exact j_vret d_X4_expand_34 rfl rfl ⟨rfl, rfl⟩
      · refine j_iload d_X4_expand_20 rfl ?_
        refine j_iconst ⟨by decide, by decide⟩ d_X4_expand_22 ?_
        refine j_icmp_lt (tgt := 34) d_X4_expand_23 (by decide) (fun h7 => ?_) (fun h7 => ?_)
        · exact j_vret d_X4_expand_34 rfl rfl ⟨rfl, rfl⟩
        · refine j_iload d_X4_expand_26 rfl ?_
          refine j_aload d_X4_expand_28 rfl ?_
          refine j_alen ht2 (by decide) rfl (tp_al_r _) (ty := .long) (by decide) d_X4_expand_30 ?_
          refine j_icmp_lt (tgt := 35) d_X4_expand_31 (by decide) (fun h8 => ?_) (fun h8 => ?_)
          · refine j_iload_n rfl d_X4_expand_35 rfl ?_
            refine j_istore (lv' := [some (.inr (.inr 1)), some (.inr (.inr a0)), some (.inl a1), some (.inl a2), some (.inr (.inr a3)), some (.inl a4), some (.inl y3), some (.inl a1), none, none, none, none, none]) d_X4_expand_36 (Nat.le_of_ble_eq_true rfl) rfl ?_
            exact j_wk [true, true, false, false, true, true, true, true, false, false, false, false, false] rfl rfl (T_X4_expand_38 G a0 a3 a4 y3 a1 M0 ht1 ht2)
          · exact j_vret d_X4_expand_34 rfl rfl ⟨rfl, rfl⟩
set_option maxHeartbeats 4000000 in
set_option maxRecDepth 100000 in
theorem c_X4_expand (G : tp_G) (a0 : Int) (a1 : Int) (a2 : Int) (a3 : Int) (a4 : Int) (M0 : tp_M) (r : tp_M) (h : f_X4_expand a0 a1 a2 a3 a4 M0 = some r) (l : Launch) : Met l y_X4_expand (tp_ws y_X4_expand i_X4_expand) (tp_rm 1) (tp_Pc G [.inr (.inr 1), .inr (.inr a0), .inl a1, .inl a2, .inr (.inr a3), .inl a4] tp_NC (tp_st M0)) (tp_Q G (o_X4_expand r)) 0 0 (tp_A G) :=
  tp_met (I := i_X4_expand) (y := y_X4_expand) (by decide +kernel) (Eq.refl "TypesAtPrime$Numbers") (Eq.refl "expand") (lv := [some (.inr (.inr 1)), some (.inr (.inr a0)), some (.inl a1), some (.inl a2), some (.inr (.inr a3)), some (.inl a4), none, none, none, none, none, none, none]) rfl (Nat.le_of_ble_eq_true rfl) (T_X4_expand G a0 a1 a2 a3 a4 M0) h l
