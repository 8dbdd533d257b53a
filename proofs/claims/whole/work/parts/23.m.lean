theorem wd_347 : (.fieldLink "TypesAtPrime$Path" 21 "TypesAtPrime$Path" "root" "[I" : Cond) ∈ lw_tbl := List.mem_append_right _ (List.mem_of_getElem? (i := 347) (by decide +kernel))
theorem fl_Path_21 : tp_F "TypesAtPrime$Path" 21 5 3 2 := ⟨_, _, _, rfl, by decide, rfl, wd_347, rfl, by decide⟩
theorem wd_349 : (.fieldLink "TypesAtPrime$Path" 26 "TypesAtPrime$Path" "monomial" "[[I" : Cond) ∈ lw_tbl := List.mem_append_right _ (List.mem_of_getElem? (i := 349) (by decide +kernel))
theorem fl_Path_26 : tp_F "TypesAtPrime$Path" 26 5 4 2 := ⟨_, _, _, rfl, by decide, rfl, wd_349, rfl, by decide⟩
def y_X5_reduce : MethodName := ⟨"TypesAtPrime$Path", "reduce", "([III)I"⟩
abbrev i_X5_reduce : tp_I := (prog_7_method_8_code, "TypesAtPrime$Path", (some .int), 8, "reduce")
abbrev o_X5_reduce : Int × tp_M → tp_O := fun r => (some (.inl r.1), tp_NC, tp_st r.2)
theorem d_X5_reduce_0 : decode prog_7_method_8_code 0 = .ok (.iconst 1, 1) := by decide +kernel
theorem d_X5_reduce_1 : decode prog_7_method_8_code 1 = .ok (.istore 4, 2) := by decide +kernel
theorem d_X5_reduce_3 : decode prog_7_method_8_code 3 = .ok (.iload_n 2, 1) := by decide +kernel
theorem d_X5_reduce_4 : decode prog_7_method_8_code 4 = .ok (.iconst 1, 1) := by decide +kernel
theorem d_X5_reduce_5 : decode prog_7_method_8_code 5 = .ok (.isub, 1) := by decide +kernel
theorem d_X5_reduce_6 : decode prog_7_method_8_code 6 = .ok (.bipush 6, 2) := by decide +kernel
theorem d_X5_reduce_8 : decode prog_7_method_8_code 8 = .ok (.invokestatic 75, 3) := by decide +kernel
theorem d_X5_reduce_11 : decode prog_7_method_8_code 11 = .ok (.istore 5, 2) := by decide +kernel
theorem d_X5_reduce_13 : decode prog_7_method_8_code 13 = .ok (.iload 5, 2) := by decide +kernel
theorem d_X5_reduce_15 : decode prog_7_method_8_code 15 = .ok (.iconst 1, 1) := by decide +kernel
theorem d_X5_reduce_16 : decode prog_7_method_8_code 16 = .ok (.if_icmp .lt 131, 3) := by decide +kernel
theorem d_X5_reduce_19 : decode prog_7_method_8_code 19 = .ok (.iload 5, 2) := by decide +kernel
theorem d_X5_reduce_21 : decode prog_7_method_8_code 21 = .ok (.aload_n 1, 1) := by decide +kernel
theorem d_X5_reduce_22 : decode prog_7_method_8_code 22 = .ok (.arraylength, 1) := by decide +kernel
theorem d_X5_reduce_23 : decode prog_7_method_8_code 23 = .ok (.if_icmp .ge 118, 3) := by decide +kernel
theorem d_X5_reduce_26 : decode prog_7_method_8_code 26 = .ok (.aload_n 0, 1) := by decide +kernel
theorem d_X5_reduce_27 : decode prog_7_method_8_code 27 = .ok (.getfield 15, 3) := by decide +kernel
theorem d_X5_reduce_30 : decode prog_7_method_8_code 30 = .ok (.iload 5, 2) := by decide +kernel
theorem d_X5_reduce_32 : decode prog_7_method_8_code 32 = .ok (.iaload, 1) := by decide +kernel
theorem d_X5_reduce_33 : decode prog_7_method_8_code 33 = .ok (.iconst 1, 1) := by decide +kernel
theorem d_X5_reduce_34 : decode prog_7_method_8_code 34 = .ok (.if_icmp .ge 6, 3) := by decide +kernel
theorem d_X5_reduce_37 : decode prog_7_method_8_code 37 = .ok (.goto 104, 3) := by decide +kernel
theorem d_X5_reduce_40 : decode prog_7_method_8_code 40 = .ok (.aload_n 1, 1) := by decide +kernel
theorem d_X5_reduce_41 : decode prog_7_method_8_code 41 = .ok (.iload 5, 2) := by decide +kernel
theorem d_X5_reduce_43 : decode prog_7_method_8_code 43 = .ok (.iaload, 1) := by decide +kernel
theorem d_X5_reduce_44 : decode prog_7_method_8_code 44 = .ok (.aload_n 0, 1) := by decide +kernel
theorem d_X5_reduce_45 : decode prog_7_method_8_code 45 = .ok (.getfield 15, 3) := by decide +kernel
theorem d_X5_reduce_48 : decode prog_7_method_8_code 48 = .ok (.iload 5, 2) := by decide +kernel
theorem d_X5_reduce_50 : decode prog_7_method_8_code 50 = .ok (.iaload, 1) := by decide +kernel
theorem d_X5_reduce_51 : decode prog_7_method_8_code 51 = .ok (.invokestatic 59, 3) := by decide +kernel
theorem d_X5_reduce_54 : decode prog_7_method_8_code 54 = .ok (.istore 6, 2) := by decide +kernel
theorem d_X5_reduce_56 : decode prog_7_method_8_code 56 = .ok (.aload_n 1, 1) := by decide +kernel
theorem d_X5_reduce_57 : decode prog_7_method_8_code 57 = .ok (.iload 5, 2) := by decide +kernel
theorem d_X5_reduce_59 : decode prog_7_method_8_code 59 = .ok (.dup2, 1) := by decide +kernel
theorem d_X5_reduce_60 : decode prog_7_method_8_code 60 = .ok (.iaload, 1) := by decide +kernel
theorem d_X5_reduce_61 : decode prog_7_method_8_code 61 = .ok (.iload 6, 2) := by decide +kernel
theorem d_X5_reduce_63 : decode prog_7_method_8_code 63 = .ok (.aload_n 0, 1) := by decide +kernel
theorem d_X5_reduce_64 : decode prog_7_method_8_code 64 = .ok (.getfield 15, 3) := by decide +kernel
theorem d_X5_reduce_67 : decode prog_7_method_8_code 67 = .ok (.iload 5, 2) := by decide +kernel
theorem d_X5_reduce_69 : decode prog_7_method_8_code 69 = .ok (.iaload, 1) := by decide +kernel
theorem d_X5_reduce_70 : decode prog_7_method_8_code 70 = .ok (.imul, 1) := by decide +kernel
theorem d_X5_reduce_71 : decode prog_7_method_8_code 71 = .ok (.isub, 1) := by decide +kernel
theorem d_X5_reduce_72 : decode prog_7_method_8_code 72 = .ok (.iastore, 1) := by decide +kernel
theorem d_X5_reduce_73 : decode prog_7_method_8_code 73 = .ok (.iconst 0, 1) := by decide +kernel
theorem d_X5_reduce_74 : decode prog_7_method_8_code 74 = .ok (.istore 7, 2) := by decide +kernel
theorem d_X5_reduce_76 : decode prog_7_method_8_code 76 = .ok (.iload 7, 2) := by decide +kernel
theorem d_X5_reduce_78 : decode prog_7_method_8_code 78 = .ok (.iload 5, 2) := by decide +kernel
theorem d_X5_reduce_80 : decode prog_7_method_8_code 80 = .ok (.if_icmp .ge 29, 3) := by decide +kernel
theorem d_X5_reduce_83 : decode prog_7_method_8_code 83 = .ok (.aload_n 1, 1) := by decide +kernel
theorem d_X5_reduce_84 : decode prog_7_method_8_code 84 = .ok (.iload 7, 2) := by decide +kernel
theorem d_X5_reduce_86 : decode prog_7_method_8_code 86 = .ok (.dup2, 1) := by decide +kernel
theorem d_X5_reduce_87 : decode prog_7_method_8_code 87 = .ok (.iaload, 1) := by decide +kernel
theorem d_X5_reduce_88 : decode prog_7_method_8_code 88 = .ok (.iload 6, 2) := by decide +kernel
theorem d_X5_reduce_90 : decode prog_7_method_8_code 90 = .ok (.aload_n 0, 1) := by decide +kernel
theorem d_X5_reduce_91 : decode prog_7_method_8_code 91 = .ok (.getfield 26, 3) := by decide +kernel
theorem d_X5_reduce_94 : decode prog_7_method_8_code 94 = .ok (.iload 5, 2) := by decide +kernel
theorem d_X5_reduce_96 : decode prog_7_method_8_code 96 = .ok (.aaload, 1) := by decide +kernel
theorem d_X5_reduce_97 : decode prog_7_method_8_code 97 = .ok (.iload 7, 2) := by decide +kernel
theorem d_X5_reduce_99 : decode prog_7_method_8_code 99 = .ok (.iaload, 1) := by decide +kernel
theorem d_X5_reduce_100 : decode prog_7_method_8_code 100 = .ok (.imul, 1) := by decide +kernel
theorem d_X5_reduce_101 : decode prog_7_method_8_code 101 = .ok (.iadd, 1) := by decide +kernel
theorem d_X5_reduce_102 : decode prog_7_method_8_code 102 = .ok (.iastore, 1) := by decide +kernel
theorem d_X5_reduce_103 : decode prog_7_method_8_code 103 = .ok (.iinc 7 1, 3) := by decide +kernel
theorem d_X5_reduce_106 : decode prog_7_method_8_code 106 = .ok (.goto (-30), 3) := by decide +kernel
theorem d_X5_reduce_109 : decode prog_7_method_8_code 109 = .ok (.iconst 0, 1) := by decide +kernel
theorem d_X5_reduce_110 : decode prog_7_method_8_code 110 = .ok (.istore 7, 2) := by decide +kernel
theorem d_X5_reduce_112 : decode prog_7_method_8_code 112 = .ok (.iload 7, 2) := by decide +kernel
theorem d_X5_reduce_114 : decode prog_7_method_8_code 114 = .ok (.iload 6, 2) := by decide +kernel
theorem d_X5_reduce_116 : decode prog_7_method_8_code 116 = .ok (.if_icmp .ge 25, 3) := by decide +kernel
theorem d_X5_reduce_119 : decode prog_7_method_8_code 119 = .ok (.iload 4, 2) := by decide +kernel
theorem d_X5_reduce_121 : decode prog_7_method_8_code 121 = .ok (.aload_n 0, 1) := by decide +kernel
theorem d_X5_reduce_122 : decode prog_7_method_8_code 122 = .ok (.getfield 21, 3) := by decide +kernel
theorem d_X5_reduce_125 : decode prog_7_method_8_code 125 = .ok (.iload 5, 2) := by decide +kernel
theorem d_X5_reduce_127 : decode prog_7_method_8_code 127 = .ok (.iaload, 1) := by decide +kernel
theorem d_X5_reduce_128 : decode prog_7_method_8_code 128 = .ok (.imul, 1) := by decide +kernel
theorem d_X5_reduce_129 : decode prog_7_method_8_code 129 = .ok (.iload_n 3, 1) := by decide +kernel
theorem d_X5_reduce_130 : decode prog_7_method_8_code 130 = .ok (.invokestatic 63, 3) := by decide +kernel
theorem d_X5_reduce_133 : decode prog_7_method_8_code 133 = .ok (.istore 4, 2) := by decide +kernel
theorem d_X5_reduce_135 : decode prog_7_method_8_code 135 = .ok (.iinc 7 1, 3) := by decide +kernel
theorem d_X5_reduce_138 : decode prog_7_method_8_code 138 = .ok (.goto (-26), 3) := by decide +kernel
theorem d_X5_reduce_141 : decode prog_7_method_8_code 141 = .ok (.iinc 5 (-1), 3) := by decide +kernel
theorem d_X5_reduce_144 : decode prog_7_method_8_code 144 = .ok (.goto (-131), 3) := by decide +kernel
theorem d_X5_reduce_147 : decode prog_7_method_8_code 147 = .ok (.iload 4, 2) := by decide +kernel
theorem d_X5_reduce_149 : decode prog_7_method_8_code 149 = .ok (.ireturn, 1) := by decide +kernel
def f_X5_reduce_141 (rec_13 : Int → Int → tp_M → Option (Int × tp_M)) (x1 : Int) (x3 : Int) (x4 : Int) (x5 : Int) (M0 : tp_M) : Option (Int × tp_M) :=
  tp_lt (tp_w (x5 + (-1))) fun y5 =>
  rec_13 x4 y5 M0
set_option maxHeartbeats 4000000 in
set_option maxRecDepth 100000 in
theorem T_X5_reduce_141 (G : tp_G) (rec_13 : Int → Int → tp_M → Option (Int × tp_M)) (x1 : Int) (x3 : Int) (x4 : Int) (x5 : Int) (M0 : tp_M) (hrec_13 : ∀ (x4' x5' : Int) (M' : tp_M), tp_J i_X5_reduce (tp_rm 1) G 0 0 o_X5_reduce tp_NC (tp_st M') 0 0 [some (.inr (.inr 279)), some (.inr (.inr x1)), none, some (.inl x3), some (.inl (x4')), some (.inl (x5')), none, none] 13 [] (rec_13 x4' x5' M')) (hg_x1 : tp_tg x1 = 21) : tp_J i_X5_reduce (tp_rm 1) G 0 0 o_X5_reduce tp_NC (tp_st M0) 0 0 [some (.inr (.inr 279)), some (.inr (.inr x1)), none, some (.inl x3), some (.inl x4), some (.inl x5), none, none] 141 [] (f_X5_reduce_141 rec_13 x1 x3 x4 x5 M0) := by
  unfold f_X5_reduce_141
  refine j_iincN (lv' := fun y5 => [some (.inr (.inr 279)), some (.inr (.inr x1)), none, some (.inl x3), some (.inl x4), some (.inl y5), none, none]) d_X5_reduce_141 rfl (Nat.le_of_ble_eq_true rfl) (fun _ => rfl) (fun y5 hy5 => ?_)
  refine j_goto (tgt := 13) d_X5_reduce_144 (by decide) ?_
  exact j_wk [true, true, false, true, true, true, false, false] rfl rfl (hrec_13 x4 y5 M0)
def f_X5_reduce_112B (rec_13 : Int → Int → tp_M → Option (Int × tp_M)) (x1 : Int) (x3 : Int) (x5 : Int) (x6 : Int) (M0 : tp_M) (rec_112 : Int → Int → Option (Int × tp_M)) (x4 : Int) (x7 : Int) : Option (Int × tp_M) :=
  if x6 ≤ x7 then
    f_X5_reduce_141 rec_13 x1 x3 x4 x5 M0
  else
    if 0 ≤ x5 ∧ x5 < 8 then
      (f_X10_remainder (tp_w (x4 * (M0 283 x5))) x3 M0).bind fun r12 =>
      tp_lt (tp_w (x7 + 1)) fun y14 =>
      rec_112 r12 y14 else none
set_option maxHeartbeats 4000000 in
set_option maxRecDepth 100000 in
theorem T_X5_reduce_112B (G : tp_G) (rec_13 : Int → Int → tp_M → Option (Int × tp_M)) (x1 : Int) (x3 : Int) (x5 : Int) (x6 : Int) (M0 : tp_M) (hrec_13 : ∀ (x4' x5' : Int) (M' : tp_M), tp_J i_X5_reduce (tp_rm 1) G 0 0 o_X5_reduce tp_NC (tp_st M') 0 0 [some (.inr (.inr 279)), some (.inr (.inr x1)), none, some (.inl x3), some (.inl (x4')), some (.inl (x5')), none, none] 13 [] (rec_13 x4' x5' M')) (hg_x1 : tp_tg x1 = 21) (rec_112 : Int → Int → Option (Int × tp_M)) (hrec_112 : ∀ (x4' x7' : Int), tp_J i_X5_reduce (tp_rm 1) G 0 0 o_X5_reduce tp_NC (tp_st M0) 0 0 [some (.inr (.inr 279)), some (.inr (.inr x1)), none, some (.inl x3), some (.inl (x4')), some (.inl x5), some (.inl x6), some (.inl (x7'))] 112 [] (rec_112 x4' x7')) (x4 : Int) (x7 : Int) : tp_J i_X5_reduce (tp_rm 1) G 0 0 o_X5_reduce tp_NC (tp_st M0) 0 0 [some (.inr (.inr 279)), some (.inr (.inr x1)), none, some (.inl x3), some (.inl x4), some (.inl x5), some (.inl x6), some (.inl x7)] 112 [] (f_X5_reduce_112B rec_13 x1 x3 x5 x6 M0 rec_112 x4 x7) := by
  unfold f_X5_reduce_112B
  refine j_iload d_X5_reduce_112 rfl ?_
  refine j_iload d_X5_reduce_114 rfl ?_
  refine j_icmp_ge (tgt := 141) d_X5_reduce_116 (by decide) (fun h11 => ?_) (fun h11 => ?_)
  · exact j_wk [true, true, false, true, true, true, false, false] rfl rfl (T_X5_reduce_141 G rec_13 x1 x3 x4 x5 M0 hrec_13 hg_x1)
  · refine j_iload d_X5_reduce_119 rfl ?_
    refine j_aload_n rfl d_X5_reduce_121 rfl ?_
    refine j_getr fl_Path_21 tg_279 rv_279_3 d_X5_reduce_122 ?_
    refine j_iload d_X5_reduce_125 rfl ?_
    refine j_iald tg_283 al_283 d_X5_reduce_127 ?_
    refine j_imul d_X5_reduce_128 ?_
    refine j_iload_n rfl d_X5_reduce_129 rfl ?_
    refine j_bind (fun r12 h13 => ?_)
    refine j_callSN (y := y_X10_remainder) (I' := i_X10_remainder) (avs := [.inl (tp_w (x4 * (M0 283 x5))), .inl x3]) (st := []) (c_X10_remainder G (tp_w (x4 * (M0 283 x5))) x3 M0 r12 h13) cs_Path_63 (by decide +kernel : (.methodLinkNest "TypesAtPrime$Path" 63 ⟨"TypesAtPrime", "remainder", "(II)I"⟩ "TypesAtPrime" : Cond) ∈ tp_nest) wd_619 rfl rfl (Nat.le_of_ble_eq_true rfl) ⟨rfl, rfl⟩ ⟨by decide, by decide⟩ ⟨by decide, by decide⟩ d_X5_reduce_130 ?_
    refine j_istore (lv' := [some (.inr (.inr 279)), some (.inr (.inr x1)), none, some (.inl x3), some (.inl r12), some (.inl x5), some (.inl x6), some (.inl x7)]) d_X5_reduce_133 (Nat.le_of_ble_eq_true rfl) rfl ?_
    refine j_iincN (lv' := fun y14 => [some (.inr (.inr 279)), some (.inr (.inr x1)), none, some (.inl x3), some (.inl r12), some (.inl x5), some (.inl x6), some (.inl y14)]) d_X5_reduce_135 rfl (Nat.le_of_ble_eq_true rfl) (fun _ => rfl) (fun y14 hy14 => ?_)
    refine j_goto (tgt := 112) d_X5_reduce_138 (by decide) ?_
    exact j_wk [true, true, false, true, true, true, true, true] rfl rfl (hrec_112 r12 y14)
def f_X5_reduce_112 (rec_13 : Int → Int → tp_M → Option (Int × tp_M)) (x1 : Int) (x3 : Int) (x4 : Int) (x5 : Int) (x6 : Int) (x7 : Int) (M0 : tp_M) : Option (Int × tp_M) := tp_lp (σ := Int × Int) (fun rec_ u => f_X5_reduce_112B rec_13 x1 x3 x5 x6 M0 (fun x4' x7' => rec_ (x4', x7')) u.1 u.2) tp_N (x4, x7)
set_option maxHeartbeats 4000000 in
set_option maxRecDepth 100000 in
theorem T_X5_reduce_112 (G : tp_G) (rec_13 : Int → Int → tp_M → Option (Int × tp_M)) (x1 : Int) (x3 : Int) (x4 : Int) (x5 : Int) (x6 : Int) (x7 : Int) (M0 : tp_M) (hrec_13 : ∀ (x4' x5' : Int) (M' : tp_M), tp_J i_X5_reduce (tp_rm 1) G 0 0 o_X5_reduce tp_NC (tp_st M') 0 0 [some (.inr (.inr 279)), some (.inr (.inr x1)), none, some (.inl x3), some (.inl (x4')), some (.inl (x5')), none, none] 13 [] (rec_13 x4' x5' M')) (hg_x1 : tp_tg x1 = 21) : tp_J i_X5_reduce (tp_rm 1) G 0 0 o_X5_reduce tp_NC (tp_st M0) 0 0 [some (.inr (.inr 279)), some (.inr (.inr x1)), none, some (.inl x3), some (.inl x4), some (.inl x5), some (.inl x6), some (.inl x7)] 112 [] (f_X5_reduce_112 rec_13 x1 x3 x4 x5 x6 x7 M0) := by
  unfold f_X5_reduce_112
  exact j_lp (σ := Int × Int) (n' := fun _ => tp_NC) (g' := fun u => tp_st M0) (k' := fun _ => 0) (q' := fun _ => 0) (lv' := fun u => [some (.inr (.inr 279)), some (.inr (.inr x1)), none, some (.inl x3), some (.inl u.1), some (.inl x5), some (.inl x6), some (.inl u.2)]) (fun rec_ hrec u => T_X5_reduce_112B G rec_13 x1 x3 x5 x6 M0 hrec_13 hg_x1 (fun x4' x7' => rec_ (x4', x7')) (fun x4' x7' => hrec (x4', x7')) u.1 u.2) tp_N (x4, x7)
def f_X5_reduce_76B (rec_13 : Int → Int → tp_M → Option (Int × tp_M)) (x1 : Int) (x3 : Int) (x4 : Int) (x5 : Int) (x6 : Int) (rec_76 : Int → tp_M → Option (Int × tp_M)) (x7 : Int) (M0 : tp_M) : Option (Int × tp_M) :=
  if x5 ≤ x7 then
    f_X5_reduce_112 rec_13 x1 x3 x4 x5 x6 0 M0
  else
    if 0 ≤ x7 ∧ x7 < tp_al x1 then
      if 0 ≤ x5 ∧ x5 < 8 then
        if 0 ≤ x7 ∧ x7 < 8 then
          if 0 ≤ x7 ∧ x7 < tp_al x1 then
            tp_mp (tp_up M0 x1 x7 (tp_w ((M0 x1 x7) + (tp_w (x6 * (M0 (285 + x5) x7)))))) fun M16 =>
            tp_lt (tp_w (x7 + 1)) fun y17 =>
            rec_76 y17 M16 else none else none else none else none
set_option maxHeartbeats 4000000 in
set_option maxRecDepth 100000 in
theorem T_X5_reduce_76B (G : tp_G) (rec_13 : Int → Int → tp_M → Option (Int × tp_M)) (x1 : Int) (x3 : Int) (x4 : Int) (x5 : Int) (x6 : Int) (hrec_13 : ∀ (x4' x5' : Int) (M' : tp_M), tp_J i_X5_reduce (tp_rm 1) G 0 0 o_X5_reduce tp_NC (tp_st M') 0 0 [some (.inr (.inr 279)), some (.inr (.inr x1)), none, some (.inl x3), some (.inl (x4')), some (.inl (x5')), none, none] 13 [] (rec_13 x4' x5' M')) (hg_x1 : tp_tg x1 = 21) (rec_76 : Int → tp_M → Option (Int × tp_M)) (hrec_76 : ∀ (x7' : Int) (M' : tp_M), tp_J i_X5_reduce (tp_rm 1) G 0 0 o_X5_reduce tp_NC (tp_st M') 0 0 [some (.inr (.inr 279)), some (.inr (.inr x1)), none, some (.inl x3), some (.inl x4), some (.inl x5), some (.inl x6), some (.inl (x7'))] 76 [] (rec_76 x7' M')) (x7 : Int) (M0 : tp_M) : tp_J i_X5_reduce (tp_rm 1) G 0 0 o_X5_reduce tp_NC (tp_st M0) 0 0 [some (.inr (.inr 279)), some (.inr (.inr x1)), none, some (.inl x3), some (.inl x4), some (.inl x5), some (.inl x6), some (.inl x7)] 76 [] (f_X5_reduce_76B rec_13 x1 x3 x4 x5 x6 rec_76 x7 M0) := by
  unfold f_X5_reduce_76B
  refine j_iload d_X5_reduce_76 rfl ?_
  refine j_iload d_X5_reduce_78 rfl ?_
  refine j_icmp_ge (tgt := 109) d_X5_reduce_80 (by decide) (fun h10 => ?_) (fun h10 => ?_)
  · refine j_iconst ⟨by decide, by decide⟩ d_X5_reduce_109 ?_
    refine j_istore (lv' := [some (.inr (.inr 279)), some (.inr (.inr x1)), none, some (.inl x3), some (.inl x4), some (.inl x5), some (.inl x6), some (.inl 0)]) d_X5_reduce_110 (Nat.le_of_ble_eq_true rfl) rfl ?_
    exact j_wk [true, true, false, true, true, true, true, true] rfl rfl (T_X5_reduce_112 G rec_13 x1 x3 x4 x5 x6 0 M0 hrec_13 hg_x1)
  · refine j_aload_n rfl d_X5_reduce_83 rfl ?_
    refine j_iload d_X5_reduce_84 rfl ?_
    refine j_dup2 d_X5_reduce_86 (fun G => tp_cat G _) (fun G => tp_cat G _) ?_
    refine j_iald hg_x1 rfl d_X5_reduce_87 ?_
    refine j_iload d_X5_reduce_88 rfl ?_
    refine j_aload_n rfl d_X5_reduce_90 rfl ?_
    refine j_getr fl_Path_26 tg_279 rv_279_4 d_X5_reduce_91 ?_
    refine j_iload d_X5_reduce_94 rfl ?_
    refine j_aald (v := (285 + x5)) (ty := (.array .int)) tg_284 (by decide) al_284 (by decide) rfl d_X5_reduce_96 (fun h1 h2 => (aa_284 _ h1 h2).1) (fun hi15 => ?_)
    refine j_iload d_X5_reduce_97 rfl ?_
    refine j_iald ((aa_284 _ hi15.1 hi15.2).2.1) ((aa_284 _ hi15.1 hi15.2).2.2) d_X5_reduce_99 ?_
    refine j_imul d_X5_reduce_100 ?_
    refine j_iadd d_X5_reduce_101 ?_
    refine j_iast hg_x1 rfl d_X5_reduce_102 (fun M16 hM16 => ?_)
    refine j_iincN (lv' := fun y17 => [some (.inr (.inr 279)), some (.inr (.inr x1)), none, some (.inl x3), some (.inl x4), some (.inl x5), some (.inl x6), some (.inl y17)]) d_X5_reduce_103 rfl (Nat.le_of_ble_eq_true rfl) (fun _ => rfl) (fun y17 hy17 => ?_)
    refine j_goto (tgt := 76) d_X5_reduce_106 (by decide) ?_
    exact j_wk [true, true, false, true, true, true, true, true] rfl rfl (hrec_76 y17 M16)
def f_X5_reduce_76 (rec_13 : Int → Int → tp_M → Option (Int × tp_M)) (x1 : Int) (x3 : Int) (x4 : Int) (x5 : Int) (x6 : Int) (x7 : Int) (M0 : tp_M) : Option (Int × tp_M) := tp_lp (σ := Int × tp_M) (fun rec_ u => f_X5_reduce_76B rec_13 x1 x3 x4 x5 x6 (fun x7' M0' => rec_ (x7', M0')) u.1 u.2) tp_N (x7, M0)
set_option maxHeartbeats 4000000 in
set_option maxRecDepth 100000 in
theorem T_X5_reduce_76 (G : tp_G) (rec_13 : Int → Int → tp_M → Option (Int × tp_M)) (x1 : Int) (x3 : Int) (x4 : Int) (x5 : Int) (x6 : Int) (x7 : Int) (M0 : tp_M) (hrec_13 : ∀ (x4' x5' : Int) (M' : tp_M), tp_J i_X5_reduce (tp_rm 1) G 0 0 o_X5_reduce tp_NC (tp_st M') 0 0 [some (.inr (.inr 279)), some (.inr (.inr x1)), none, some (.inl x3), some (.inl (x4')), some (.inl (x5')), none, none] 13 [] (rec_13 x4' x5' M')) (hg_x1 : tp_tg x1 = 21) : tp_J i_X5_reduce (tp_rm 1) G 0 0 o_X5_reduce tp_NC (tp_st M0) 0 0 [some (.inr (.inr 279)), some (.inr (.inr x1)), none, some (.inl x3), some (.inl x4), some (.inl x5), some (.inl x6), some (.inl x7)] 76 [] (f_X5_reduce_76 rec_13 x1 x3 x4 x5 x6 x7 M0) := by
  unfold f_X5_reduce_76
  exact j_lp (σ := Int × tp_M) (n' := fun _ => tp_NC) (g' := fun u => tp_st u.2) (k' := fun _ => 0) (q' := fun _ => 0) (lv' := fun u => [some (.inr (.inr 279)), some (.inr (.inr x1)), none, some (.inl x3), some (.inl x4), some (.inl x5), some (.inl x6), some (.inl u.1)]) (fun rec_ hrec u => T_X5_reduce_76B G rec_13 x1 x3 x4 x5 x6 hrec_13 hg_x1 (fun x7' M0' => rec_ (x7', M0')) (fun x7' M0' => hrec (x7', M0')) u.1 u.2) tp_N (x7, M0)
def f_X5_reduce_13B (x1 : Int) (x3 : Int) (rec_13 : Int → Int → tp_M → Option (Int × tp_M)) (x4 : Int) (x5 : Int) (M0 : tp_M) : Option (Int × tp_M) :=
  if x5 < 1 then
    some (x4, M0)
  else
    if (tp_al x1) ≤ x5 then
      f_X5_reduce_141 rec_13 x1 x3 x4 x5 M0
    else
      if 0 ≤ x5 ∧ x5 < 8 then
        if 1 ≤ (M0 281 x5) then
          if 0 ≤ x5 ∧ x5 < tp_al x1 then
            if 0 ≤ x5 ∧ x5 < 8 then
              (f_X10_quotient (M0 x1 x5) (M0 281 x5) M0).bind fun r7 =>
              if 0 ≤ x5 ∧ x5 < tp_al x1 then
                if 0 ≤ x5 ∧ x5 < 8 then
                  if 0 ≤ x5 ∧ x5 < tp_al x1 then
                    tp_mp (tp_up M0 x1 x5 (tp_w ((M0 x1 x5) - (tp_w (r7 * (M0 281 x5)))))) fun M9 =>
                    f_X5_reduce_76 rec_13 x1 x3 x4 x5 r7 0 M9 else none else none else none else none else none
        else
          f_X5_reduce_141 rec_13 x1 x3 x4 x5 M0 else none
set_option maxHeartbeats 4000000 in
set_option maxRecDepth 100000 in
theorem T_X5_reduce_13B (G : tp_G) (x1 : Int) (x3 : Int) (hg_x1 : tp_tg x1 = 21) (rec_13 : Int → Int → tp_M → Option (Int × tp_M)) (hrec_13 : ∀ (x4' x5' : Int) (M' : tp_M), tp_J i_X5_reduce (tp_rm 1) G 0 0 o_X5_reduce tp_NC (tp_st M') 0 0 [some (.inr (.inr 279)), some (.inr (.inr x1)), none, some (.inl x3), some (.inl (x4')), some (.inl (x5')), none, none] 13 [] (rec_13 x4' x5' M')) (x4 : Int) (x5 : Int) (M0 : tp_M) : tp_J i_X5_reduce (tp_rm 1) G 0 0 o_X5_reduce tp_NC (tp_st M0) 0 0 [some (.inr (.inr 279)), some (.inr (.inr x1)), none, some (.inl x3), some (.inl x4), some (.inl x5), none, none] 13 [] (f_X5_reduce_13B x1 x3 rec_13 x4 x5 M0) := by
  unfold f_X5_reduce_13B
  refine j_iload d_X5_reduce_13 rfl ?_
  refine j_iconst ⟨by decide, by decide⟩ d_X5_reduce_15 ?_
  refine j_icmp_lt (tgt := 147) d_X5_reduce_16 (by decide) (fun h3 => ?_) (fun h3 => ?_)
  · refine j_iload d_X5_reduce_147 rfl ?_
    exact j_iret d_X5_reduce_149 rfl rfl ⟨rfl, rfl⟩
  · refine j_iload d_X5_reduce_19 rfl ?_
    refine j_aload_n rfl d_X5_reduce_21 rfl ?_
    refine j_alen hg_x1 (by decide) rfl (tp_al_r _) (ty := .int) (by decide) d_X5_reduce_22 ?_
    refine j_icmp_ge (tgt := 141) d_X5_reduce_23 (by decide) (fun h4 => ?_) (fun h4 => ?_)
    · exact j_wk [true, true, false, true, true, true, false, false] rfl rfl (T_X5_reduce_141 G rec_13 x1 x3 x4 x5 M0 hrec_13 hg_x1)
    · refine j_aload_n rfl d_X5_reduce_26 rfl ?_
      refine j_getr fl_Path_15 tg_279 rv_279_1 d_X5_reduce_27 ?_
      refine j_iload d_X5_reduce_30 rfl ?_
      refine j_iald tg_281 al_281 d_X5_reduce_32 ?_
      refine j_iconst ⟨by decide, by decide⟩ d_X5_reduce_33 ?_
      refine j_icmp_ge (tgt := 40) d_X5_reduce_34 (by decide) (fun h6 => ?_) (fun h6 => ?_)
      · refine j_aload_n rfl d_X5_reduce_40 rfl ?_
        refine j_iload d_X5_reduce_41 rfl ?_
        refine j_iald hg_x1 rfl d_X5_reduce_43 ?_
        refine j_aload_n rfl d_X5_reduce_44 rfl ?_
        refine j_getr fl_Path_15 tg_279 rv_279_1 d_X5_reduce_45 ?_
        refine j_iload d_X5_reduce_48 rfl ?_
        refine j_iald tg_281 al_281 d_X5_reduce_50 ?_
        refine j_bind (fun r7 h8 => ?_)
        refine j_callSN (y := y_X10_quotient) (I' := i_X10_quotient) (avs := [.inl (M0 x1 x5), .inl (M0 281 x5)]) (st := []) (c_X10_quotient G (M0 x1 x5) (M0 281 x5) M0 r7 h8) cs_Path_59 (by decide +kernel : (.methodLinkNest "TypesAtPrime$Path" 59 ⟨"TypesAtPrime", "quotient", "(II)I"⟩ "TypesAtPrime" : Cond) ∈ tp_nest) wd_622 rfl rfl (Nat.le_of_ble_eq_true rfl) ⟨rfl, rfl⟩ ⟨by decide, by decide⟩ ⟨by decide, by decide⟩ d_X5_reduce_51 ?_
        refine j_istore (lv' := [some (.inr (.inr 279)), some (.inr (.inr x1)), none, some (.inl x3), some (.inl x4), some (.inl x5), some (.inl r7), none]) d_X5_reduce_54 (Nat.le_of_ble_eq_true rfl) rfl ?_
        refine j_aload_n rfl d_X5_reduce_56 rfl ?_
        refine j_iload d_X5_reduce_57 rfl ?_
        refine j_dup2 d_X5_reduce_59 (fun G => tp_cat G _) (fun G => tp_cat G _) ?_
        refine j_iald hg_x1 rfl d_X5_reduce_60 ?_
        refine j_iload d_X5_reduce_61 rfl ?_
        refine j_aload_n rfl d_X5_reduce_63 rfl ?_
        refine j_getr fl_Path_15 tg_279 rv_279_1 d_X5_reduce_64 ?_
        refine j_iload d_X5_reduce_67 rfl ?_
        refine j_iald tg_281 al_281 d_X5_reduce_69 ?_
        refine j_imul d_X5_reduce_70 ?_
        refine j_isub d_X5_reduce_71 ?_
        refine j_iast hg_x1 rfl d_X5_reduce_72 (fun M9 hM9 => ?_)
        refine j_iconst ⟨by decide, by decide⟩ d_X5_reduce_73 ?_
        refine j_istore (lv' := [some (.inr (.inr 279)), some (.inr (.inr x1)), none, some (.inl x3), some (.inl x4), some (.inl x5), some (.inl r7), some (.inl 0)]) d_X5_reduce_74 (Nat.le_of_ble_eq_true rfl) rfl ?_
        exact j_wk [true, true, false, true, true, true, true, true] rfl rfl (T_X5_reduce_76 G rec_13 x1 x3 x4 x5 r7 0 M9 hrec_13 hg_x1)
      · refine j_goto (tgt := 141) d_X5_reduce_37 (by decide) ?_
        exact j_wk [true, true, false, true, true, true, false, false] rfl rfl (T_X5_reduce_141 G rec_13 x1 x3 x4 x5 M0 hrec_13 hg_x1)
def f_X5_reduce_13 (x1 : Int) (x3 : Int) (x4 : Int) (x5 : Int) (M0 : tp_M) : Option (Int × tp_M) := tp_lp (σ := Int × Int × tp_M) (fun rec_ u => f_X5_reduce_13B x1 x3 (fun x4' x5' M0' => rec_ (x4', x5', M0')) u.1 u.2.1 u.2.2) tp_N (x4, x5, M0)
set_option maxHeartbeats 4000000 in
set_option maxRecDepth 100000 in
theorem T_X5_reduce_13 (G : tp_G) (x1 : Int) (x3 : Int) (x4 : Int) (x5 : Int) (M0 : tp_M) (hg_x1 : tp_tg x1 = 21) : tp_J i_X5_reduce (tp_rm 1) G 0 0 o_X5_reduce tp_NC (tp_st M0) 0 0 [some (.inr (.inr 279)), some (.inr (.inr x1)), none, some (.inl x3), some (.inl x4), some (.inl x5), none, none] 13 [] (f_X5_reduce_13 x1 x3 x4 x5 M0) := by
  unfold f_X5_reduce_13
  exact j_lp (σ := Int × Int × tp_M) (n' := fun _ => tp_NC) (g' := fun u => tp_st u.2.2) (k' := fun _ => 0) (q' := fun _ => 0) (lv' := fun u => [some (.inr (.inr 279)), some (.inr (.inr x1)), none, some (.inl x3), some (.inl u.1), some (.inl u.2.1), none, none]) (fun rec_ hrec u => T_X5_reduce_13B G x1 x3 hg_x1 (fun x4' x5' M0' => rec_ (x4', x5', M0')) (fun x4' x5' M0' => hrec (x4', x5', M0')) u.1 u.2.1 u.2.2) tp_N (x4, x5, M0)
def f_X5_reduce (a0 : Int) (a1 : Int) (a2 : Int) (M0 : tp_M) : Option (Int × tp_M) :=
  if tp_tg a0 = 21 then
    tp_lt ((min (tp_w (a1 - 1)) 6)) fun y2 =>
    f_X5_reduce_13 a0 a2 1 y2 M0 else none
set_option maxHeartbeats 4000000 in
set_option maxRecDepth 100000 in
theorem T_X5_reduce (G : tp_G) (a0 : Int) (a1 : Int) (a2 : Int) (M0 : tp_M) : tp_J i_X5_reduce (tp_rm 1) G 0 0 o_X5_reduce tp_NC (tp_st M0) 0 0 [some (.inr (.inr 279)), some (.inr (.inr a0)), some (.inl a1), some (.inl a2), none, none, none, none] 0 [] (f_X5_reduce a0 a1 a2 M0) := by
  unfold f_X5_reduce
  refine tp_chk (fun ht1 => ?_)
  refine j_iconst ⟨by decide, by decide⟩ d_X5_reduce_0 ?_
  refine j_istore (lv' := [some (.inr (.inr 279)), some (.inr (.inr a0)), some (.inl a1), some (.inl a2), some (.inl 1), none, none, none]) d_X5_reduce_1 (Nat.le_of_ble_eq_true rfl) rfl ?_
  refine j_iload_n rfl d_X5_reduce_3 rfl ?_
  refine j_iconst ⟨by decide, by decide⟩ d_X5_reduce_4 ?_
  refine j_isub d_X5_reduce_5 ?_
  refine j_bipush ⟨by decide, by decide⟩ (by decide +kernel) d_X5_reduce_6 ?_
  refine j_mmin wd_767 wd_482 wd_13 wd_483 ⟨(by decide : 1 ≤ ((tp_rm 1) : Room).frames), (by decide : 40 ≤ ((tp_rm 1) : Room).locals)⟩ ⟨by decide, by decide⟩ (Nat.le_of_ble_eq_true rfl) d_X5_reduce_8 ?_
  refine j_nmI (fun y2 hy2 => ?_)
  refine j_istore (lv' := [some (.inr (.inr 279)), some (.inr (.inr a0)), some (.inl a1), some (.inl a2), some (.inl 1), some (.inl y2), none, none]) d_X5_reduce_11 (Nat.le_of_ble_eq_true rfl) rfl ?_
  exact j_wk [true, true, false, true, true, true, false, false] rfl rfl (T_X5_reduce_13 G a0 a2 1 y2 M0 ht1)
set_option maxHeartbeats 4000000 in
set_option maxRecDepth 100000 in
theorem c_X5_reduce (G : tp_G) (a0 : Int) (a1 : Int) (a2 : Int) (M0 : tp_M) (r : Int × tp_M) (h : f_X5_reduce a0 a1 a2 M0 = some r) (l : Launch) : Met l y_X5_reduce (tp_ws y_X5_reduce i_X5_reduce) (tp_rm 1) (tp_Pc G [.inr (.inr 279), .inr (.inr a0), .inl a1, .inl a2] tp_NC (tp_st M0)) (tp_Q G (o_X5_reduce r)) 0 0 (tp_A G) :=
  tp_met (I := i_X5_reduce) (y := y_X5_reduce) (by decide +kernel) (Eq.refl "TypesAtPrime$Path") (Eq.refl "reduce") (lv := [some (.inr (.inr 279)), some (.inr (.inr a0)), some (.inl a1), some (.inl a2), none, none, none, none]) rfl (Nat.le_of_ble_eq_true rfl) (T_X5_reduce G a0 a1 a2 M0) h l
theorem wd_381 : (.fieldLink "TypesAtPrime$Grower" 50 "TypesAtPrime$Grower" "exponents" "[I" : Cond) ∈ lw_tbl := List.mem_append_right _ (List.mem_of_getElem? (i := 381) (by decide +kernel))
theorem fl_Grower_50 : tp_F "TypesAtPrime$Grower" 50 1 12 2 := ⟨_, _, _, rfl, by decide, rfl, wd_381, rfl, by decide⟩
theorem tg_311 : tp_tg 311 = 21 := by decide +kernel
theorem al_311 : tp_al 311 = 8 := by decide +kernel
theorem rv_278_12 : tp_rv 278 12 = 311 := by decide +kernel
theorem wd_37 : (.fieldLink "TypesAtPrime$Grower" 88 "TypesAtPrime$Numbers" "prime" "I" : Cond) ∈ lw_tbl := List.mem_append_right _ (List.mem_of_getElem? (i := 37) (by decide +kernel))
theorem fl_Grower_88 : tp_F "TypesAtPrime$Grower" 88 4 0 0 := ⟨_, _, _, rfl, by decide, rfl, wd_37, rfl, by decide⟩
theorem wd_789 : (.code ⟨"TypesAtPrime$Path", "reduce", "([III)I"⟩ prog_7_method_8_code 8 (some .int) : Cond) ∈ lw_tbl := List.mem_append_right _ (List.mem_of_getElem? (i := 789) (by decide +kernel))
theorem cs_Grower_315 : tp_CS "TypesAtPrime$Grower" 315 y_X5_reduce i_X5_reduce 3 := ⟨wd_789, wd_11, by decide, by decide, by decide +kernel⟩
theorem wd_786 : (.methodLink "TypesAtPrime$Grower" 315 ⟨"TypesAtPrime$Path", "reduce", "([III)I"⟩ : Cond) ∈ lw_tbl := List.mem_append_right _ (List.mem_of_getElem? (i := 786) (by decide +kernel))
theorem wd_787 : (.instanceMethod ⟨"TypesAtPrime$Path", "reduce", "([III)I"⟩ : Cond) ∈ lw_tbl := List.mem_append_right _ (List.mem_of_getElem? (i := 787) (by decide +kernel))
theorem wd_788 : (.selects "TypesAtPrime$Path" ⟨"TypesAtPrime$Path", "reduce", "([III)I"⟩ ⟨"TypesAtPrime$Path", "reduce", "([III)I"⟩ : Cond) ∈ lw_tbl := List.mem_append_right _ (List.mem_of_getElem? (i := 788) (by decide +kernel))
theorem cs_Grower_115 : tp_CS "TypesAtPrime$Grower" 115 y_X10_remainder i_X10_remainder 2 := ⟨wd_620, wd_1, by decide, by decide, by decide +kernel⟩
theorem cs_Grower_312 : tp_CS "TypesAtPrime$Grower" 312 y_X5_exponent i_X5_exponent 2 := ⟨wd_717, wd_11, by decide, by decide, by decide +kernel⟩
theorem wd_785 : (.methodLink "TypesAtPrime$Grower" 312 ⟨"TypesAtPrime$Path", "exponent", "(II)I"⟩ : Cond) ∈ lw_tbl := List.mem_append_right _ (List.mem_of_getElem? (i := 785) (by decide +kernel))
def y_X1_residueOnSide : MethodName := ⟨"TypesAtPrime$Grower", "residueOnSide", "(LTypesAtPrime$Knot;LTypesAtPrime$Side;II)I"⟩
abbrev i_X1_residueOnSide : tp_I := (prog_3_method_15_code, "TypesAtPrime$Grower", (some .int), 6, "residueOnSide")
abbrev o_X1_residueOnSide : Int × tp_M → tp_O := fun r => (some (.inl r.1), tp_NC, tp_st r.2)
theorem d_X1_residueOnSide_0 : decode prog_3_method_15_code 0 = .ok (.aload_n 0, 1) := by decide +kernel
theorem d_X1_residueOnSide_1 : decode prog_3_method_15_code 1 = .ok (.getfield 50, 3) := by decide +kernel
theorem d_X1_residueOnSide_4 : decode prog_3_method_15_code 4 = .ok (.iconst 0, 1) := by decide +kernel
theorem d_X1_residueOnSide_5 : decode prog_3_method_15_code 5 = .ok (.iconst 0, 1) := by decide +kernel
theorem d_X1_residueOnSide_6 : decode prog_3_method_15_code 6 = .ok (.iastore, 1) := by decide +kernel
theorem d_X1_residueOnSide_7 : decode prog_3_method_15_code 7 = .ok (.iconst 1, 1) := by decide +kernel
theorem d_X1_residueOnSide_8 : decode prog_3_method_15_code 8 = .ok (.istore 5, 2) := by decide +kernel
theorem d_X1_residueOnSide_10 : decode prog_3_method_15_code 10 = .ok (.iload 5, 2) := by decide +kernel
theorem d_X1_residueOnSide_12 : decode prog_3_method_15_code 12 = .ok (.bipush 8, 2) := by decide +kernel
theorem d_X1_residueOnSide_14 : decode prog_3_method_15_code 14 = .ok (.if_icmp .ge 55, 3) := by decide +kernel
theorem d_X1_residueOnSide_17 : decode prog_3_method_15_code 17 = .ok (.aload_n 0, 1) := by decide +kernel
theorem d_X1_residueOnSide_18 : decode prog_3_method_15_code 18 = .ok (.getfield 50, 3) := by decide +kernel
theorem d_X1_residueOnSide_21 : decode prog_3_method_15_code 21 = .ok (.iload 5, 2) := by decide +kernel
theorem d_X1_residueOnSide_23 : decode prog_3_method_15_code 23 = .ok (.iload 5, 2) := by decide +kernel
theorem d_X1_residueOnSide_25 : decode prog_3_method_15_code 25 = .ok (.aload_n 1, 1) := by decide +kernel
theorem d_X1_residueOnSide_26 : decode prog_3_method_15_code 26 = .ok (.getfield 177, 3) := by decide +kernel
theorem d_X1_residueOnSide_29 : decode prog_3_method_15_code 29 = .ok (.if_icmp .ge 32, 3) := by decide +kernel
theorem d_X1_residueOnSide_32 : decode prog_3_method_15_code 32 = .ok (.aload_n 0, 1) := by decide +kernel
theorem d_X1_residueOnSide_33 : decode prog_3_method_15_code 33 = .ok (.getfield 12, 3) := by decide +kernel
theorem d_X1_residueOnSide_36 : decode prog_3_method_15_code 36 = .ok (.aload_n 0, 1) := by decide +kernel
theorem d_X1_residueOnSide_37 : decode prog_3_method_15_code 37 = .ok (.getfield 41, 3) := by decide +kernel
theorem d_X1_residueOnSide_40 : decode prog_3_method_15_code 40 = .ok (.iload_n 3, 1) := by decide +kernel
theorem d_X1_residueOnSide_41 : decode prog_3_method_15_code 41 = .ok (.iaload, 1) := by decide +kernel
theorem d_X1_residueOnSide_42 : decode prog_3_method_15_code 42 = .ok (.iload 5, 2) := by decide +kernel
theorem d_X1_residueOnSide_44 : decode prog_3_method_15_code 44 = .ok (.invokevirtual 312, 3) := by decide +kernel
theorem d_X1_residueOnSide_47 : decode prog_3_method_15_code 47 = .ok (.iload 4, 2) := by decide +kernel
theorem d_X1_residueOnSide_49 : decode prog_3_method_15_code 49 = .ok (.aload_n 2, 1) := by decide +kernel
theorem d_X1_residueOnSide_50 : decode prog_3_method_15_code 50 = .ok (.getfield 299, 3) := by decide +kernel
theorem d_X1_residueOnSide_53 : decode prog_3_method_15_code 53 = .ok (.iload 5, 2) := by decide +kernel
theorem d_X1_residueOnSide_55 : decode prog_3_method_15_code 55 = .ok (.iaload, 1) := by decide +kernel
theorem d_X1_residueOnSide_56 : decode prog_3_method_15_code 56 = .ok (.imul, 1) := by decide +kernel
theorem d_X1_residueOnSide_57 : decode prog_3_method_15_code 57 = .ok (.iadd, 1) := by decide +kernel
theorem d_X1_residueOnSide_58 : decode prog_3_method_15_code 58 = .ok (.goto 4, 3) := by decide +kernel
theorem d_X1_residueOnSide_61 : decode prog_3_method_15_code 61 = .ok (.iconst 0, 1) := by decide +kernel
theorem d_X1_residueOnSide_62 : decode prog_3_method_15_code 62 = .ok (.iastore, 1) := by decide +kernel
theorem d_X1_residueOnSide_63 : decode prog_3_method_15_code 63 = .ok (.iinc 5 1, 3) := by decide +kernel
theorem d_X1_residueOnSide_66 : decode prog_3_method_15_code 66 = .ok (.goto (-56), 3) := by decide +kernel
theorem d_X1_residueOnSide_69 : decode prog_3_method_15_code 69 = .ok (.aload_n 0, 1) := by decide +kernel
theorem d_X1_residueOnSide_70 : decode prog_3_method_15_code 70 = .ok (.getfield 44, 3) := by decide +kernel
theorem d_X1_residueOnSide_73 : decode prog_3_method_15_code 73 = .ok (.iload_n 3, 1) := by decide +kernel
theorem d_X1_residueOnSide_74 : decode prog_3_method_15_code 74 = .ok (.iaload, 1) := by decide +kernel
theorem d_X1_residueOnSide_75 : decode prog_3_method_15_code 75 = .ok (.aload_n 0, 1) := by decide +kernel
theorem d_X1_residueOnSide_76 : decode prog_3_method_15_code 76 = .ok (.getfield 12, 3) := by decide +kernel
theorem d_X1_residueOnSide_79 : decode prog_3_method_15_code 79 = .ok (.aload_n 0, 1) := by decide +kernel
theorem d_X1_residueOnSide_80 : decode prog_3_method_15_code 80 = .ok (.getfield 50, 3) := by decide +kernel
theorem d_X1_residueOnSide_83 : decode prog_3_method_15_code 83 = .ok (.aload_n 1, 1) := by decide +kernel
theorem d_X1_residueOnSide_84 : decode prog_3_method_15_code 84 = .ok (.getfield 177, 3) := by decide +kernel
theorem d_X1_residueOnSide_87 : decode prog_3_method_15_code 87 = .ok (.aload_n 0, 1) := by decide +kernel
theorem d_X1_residueOnSide_88 : decode prog_3_method_15_code 88 = .ok (.getfield 53, 3) := by decide +kernel
theorem d_X1_residueOnSide_91 : decode prog_3_method_15_code 91 = .ok (.getfield 88, 3) := by decide +kernel
theorem d_X1_residueOnSide_94 : decode prog_3_method_15_code 94 = .ok (.invokevirtual 315, 3) := by decide +kernel
theorem d_X1_residueOnSide_97 : decode prog_3_method_15_code 97 = .ok (.imul, 1) := by decide +kernel
theorem d_X1_residueOnSide_98 : decode prog_3_method_15_code 98 = .ok (.aload_n 0, 1) := by decide +kernel
theorem d_X1_residueOnSide_99 : decode prog_3_method_15_code 99 = .ok (.getfield 53, 3) := by decide +kernel
theorem d_X1_residueOnSide_102 : decode prog_3_method_15_code 102 = .ok (.getfield 88, 3) := by decide +kernel
theorem d_X1_residueOnSide_105 : decode prog_3_method_15_code 105 = .ok (.invokestatic 115, 3) := by decide +kernel
theorem d_X1_residueOnSide_108 : decode prog_3_method_15_code 108 = .ok (.ireturn, 1) := by decide +kernel
def f_X1_residueOnSide_62 (rec_10 : Int → tp_M → Option (Int × tp_M)) (x1 : Int) (x2 : Int) (x3 : Int) (x4 : Int) (x5 : Int) (s0 : Int) (s1 : Int) (M0 : tp_M) : Option (Int × tp_M) :=
  if 0 ≤ s1 ∧ s1 < 8 then
    tp_mp (tp_up M0 311 s1 s0) fun M10 =>
    tp_lt (tp_w (x5 + 1)) fun y11 =>
    rec_10 y11 M10 else none
set_option maxHeartbeats 4000000 in
set_option maxRecDepth 100000 in
theorem T_X1_residueOnSide_62 (G : tp_G) (rec_10 : Int → tp_M → Option (Int × tp_M)) (x1 : Int) (x2 : Int) (x3 : Int) (x4 : Int) (x5 : Int) (s0 : Int) (s1 : Int) (M0 : tp_M) (hrec_10 : ∀ (x5' : Int) (M' : tp_M), tp_J i_X1_residueOnSide (tp_rm 2) G 0 0 o_X1_residueOnSide tp_NC (tp_st M') 0 0 [some (.inr (.inr 278)), some (.inr (.inr x1)), some (.inr (.inr x2)), some (.inl x3), some (.inl x4), some (.inl (x5'))] 10 [] (rec_10 x5' M')) (hg_x1 : tp_tg x1 = 2) (hg_x2 : tp_tg x2 = 7) : tp_J i_X1_residueOnSide (tp_rm 2) G 0 0 o_X1_residueOnSide tp_NC (tp_st M0) 0 0 [some (.inr (.inr 278)), some (.inr (.inr x1)), some (.inr (.inr x2)), some (.inl x3), some (.inl x4), some (.inl x5)] 62 [.inl s0, .inl s1, .inr (.inr 311)] (f_X1_residueOnSide_62 rec_10 x1 x2 x3 x4 x5 s0 s1 M0) := by
  unfold f_X1_residueOnSide_62
  refine j_iast tg_311 al_311 d_X1_residueOnSide_62 (fun M10 hM10 => ?_)
  refine j_iincN (lv' := fun y11 => [some (.inr (.inr 278)), some (.inr (.inr x1)), some (.inr (.inr x2)), some (.inl x3), some (.inl x4), some (.inl y11)]) d_X1_residueOnSide_63 rfl (Nat.le_of_ble_eq_true rfl) (fun _ => rfl) (fun y11 hy11 => ?_)
  refine j_goto (tgt := 10) d_X1_residueOnSide_66 (by decide) ?_
  exact j_wk [true, true, true, true, true, true] rfl rfl (hrec_10 y11 M10)
def f_X1_residueOnSide_10B (x1 : Int) (x2 : Int) (x3 : Int) (x4 : Int) (rec_10 : Int → tp_M → Option (Int × tp_M)) (x5 : Int) (M0 : tp_M) : Option (Int × tp_M) :=
  if 8 ≤ x5 then
    if 0 ≤ x3 ∧ x3 < 9 then
      (f_X5_reduce 311 (M0 x1 0) (M0 1 0) M0).bind fun r5 =>
      (f_X10_remainder (tp_w ((M0 309 x3) * r5.1)) (r5.2 1 0) r5.2).bind fun r7 =>
      some (r7, r5.2) else none
  else
    if (M0 x1 0) ≤ x5 then
      f_X1_residueOnSide_62 rec_10 x1 x2 x3 x4 x5 0 x5 M0
    else
      if 0 ≤ x3 ∧ x3 < 9 then
        (f_X5_exponent (M0 308 x3) x5 M0).bind fun r12 =>
        if 0 ≤ x5 ∧ x5 < 8 then
          f_X1_residueOnSide_62 rec_10 x1 x2 x3 x4 x5 (tp_w (r12 + (tp_w (x4 * (M0 (x2 + 1) x5))))) x5 M0 else none else none
set_option maxHeartbeats 4000000 in
set_option maxRecDepth 100000 in
theorem T_X1_residueOnSide_10B (G : tp_G) (x1 : Int) (x2 : Int) (x3 : Int) (x4 : Int) (hg_x1 : tp_tg x1 = 2) (hg_x2 : tp_tg x2 = 7) (rec_10 : Int → tp_M → Option (Int × tp_M)) (hrec_10 : ∀ (x5' : Int) (M' : tp_M), tp_J i_X1_residueOnSide (tp_rm 2) G 0 0 o_X1_residueOnSide tp_NC (tp_st M') 0 0 [some (.inr (.inr 278)), some (.inr (.inr x1)), some (.inr (.inr x2)), some (.inl x3), some (.inl x4), some (.inl (x5'))] 10 [] (rec_10 x5' M')) (x5 : Int) (M0 : tp_M) : tp_J i_X1_residueOnSide (tp_rm 2) G 0 0 o_X1_residueOnSide tp_NC (tp_st M0) 0 0 [some (.inr (.inr 278)), some (.inr (.inr x1)), some (.inr (.inr x2)), some (.inl x3), some (.inl x4), some (.inl x5)] 10 [] (f_X1_residueOnSide_10B x1 x2 x3 x4 rec_10 x5 M0) := by
  unfold f_X1_residueOnSide_10B
  refine j_iload d_X1_residueOnSide_10 rfl ?_
  refine j_bipush ⟨by decide, by decide⟩ (by decide +kernel) d_X1_residueOnSide_12 ?_
  refine j_icmp_ge (tgt := 69) d_X1_residueOnSide_14 (by decide) (fun h4 => ?_) (fun h4 => ?_)
  · refine j_aload_n rfl d_X1_residueOnSide_69 rfl ?_
    refine j_getr fl_Grower_44 tg_278 rv_278_10 d_X1_residueOnSide_70 ?_
    refine j_iload_n rfl d_X1_residueOnSide_73 rfl ?_
    refine j_iald tg_309 al_309 d_X1_residueOnSide_74 ?_
    refine j_aload_n rfl d_X1_residueOnSide_75 rfl ?_
    refine j_getr fl_Grower_12 tg_278 rv_278_2 d_X1_residueOnSide_76 ?_
    refine j_aload_n rfl d_X1_residueOnSide_79 rfl ?_
    refine j_getr fl_Grower_50 tg_278 rv_278_12 d_X1_residueOnSide_80 ?_
    refine j_aload_n rfl d_X1_residueOnSide_83 rfl ?_
    refine j_geti fl_Grower_177 hg_x1 d_X1_residueOnSide_84 ?_
    refine j_aload_n rfl d_X1_residueOnSide_87 rfl ?_
    refine j_getr fl_Grower_53 tg_278 rv_278_0 d_X1_residueOnSide_88 ?_
    refine j_geti fl_Grower_88 tg_1 d_X1_residueOnSide_91 ?_
    refine j_bind (fun r5 h6 => ?_)
    refine j_callV (y := y_X5_reduce) (I' := i_X5_reduce) (avs := [.inr (.inr 311), .inl (M0 x1 0), .inl (M0 1 0)]) (c := 279) (st := [.inl (M0 309 x3)]) (c_X5_reduce G 311 (M0 x1 0) (M0 1 0) M0 r5 h6) cs_Grower_315 wd_786 wd_787 wd_788 tg_279 rfl rfl rfl (Nat.le_of_ble_eq_true rfl) ⟨rfl, rfl⟩ ⟨by decide, by decide⟩ ⟨by decide, by decide⟩ d_X1_residueOnSide_94 ?_
    refine j_imul d_X1_residueOnSide_97 ?_
    refine j_aload_n rfl d_X1_residueOnSide_98 rfl ?_
    refine j_getr fl_Grower_53 tg_278 rv_278_0 d_X1_residueOnSide_99 ?_
    refine j_geti fl_Grower_88 tg_1 d_X1_residueOnSide_102 ?_
    refine j_bind (fun r7 h8 => ?_)
    refine j_callSN (y := y_X10_remainder) (I' := i_X10_remainder) (avs := [.inl (tp_w ((M0 309 x3) * r5.1)), .inl (r5.2 1 0)]) (st := []) (c_X10_remainder G (tp_w ((M0 309 x3) * r5.1)) (r5.2 1 0) r5.2 r7 h8) cs_Grower_115 (by decide +kernel : (.methodLinkNest "TypesAtPrime$Grower" 115 ⟨"TypesAtPrime", "remainder", "(II)I"⟩ "TypesAtPrime" : Cond) ∈ tp_nest) wd_619 rfl rfl (Nat.le_of_ble_eq_true rfl) ⟨rfl, rfl⟩ ⟨by decide, by decide⟩ ⟨by decide, by decide⟩ d_X1_residueOnSide_105 ?_
    exact j_iret d_X1_residueOnSide_108 rfl rfl ⟨rfl, rfl⟩
  · refine j_aload_n rfl d_X1_residueOnSide_17 rfl ?_
    refine j_getr fl_Grower_50 tg_278 rv_278_12 d_X1_residueOnSide_18 ?_
    refine j_iload d_X1_residueOnSide_21 rfl ?_
    refine j_iload d_X1_residueOnSide_23 rfl ?_
    refine j_aload_n rfl d_X1_residueOnSide_25 rfl ?_
    refine j_geti fl_Grower_177 hg_x1 d_X1_residueOnSide_26 ?_
    refine j_icmp_ge (tgt := 61) d_X1_residueOnSide_29 (by decide) (fun h9 => ?_) (fun h9 => ?_)
    · refine j_iconst ⟨by decide, by decide⟩ d_X1_residueOnSide_61 ?_
      exact j_wk [true, true, true, true, true, true] rfl rfl (T_X1_residueOnSide_62 G rec_10 x1 x2 x3 x4 x5 0 x5 M0 hrec_10 hg_x1 hg_x2)
    · refine j_aload_n rfl d_X1_residueOnSide_32 rfl ?_
      refine j_getr fl_Grower_12 tg_278 rv_278_2 d_X1_residueOnSide_33 ?_
      refine j_aload_n rfl d_X1_residueOnSide_36 rfl ?_
      refine j_getr fl_Grower_41 tg_278 rv_278_9 d_X1_residueOnSide_37 ?_
      refine j_iload_n rfl d_X1_residueOnSide_40 rfl ?_
      refine j_iald tg_308 al_308 d_X1_residueOnSide_41 ?_
      refine j_iload d_X1_residueOnSide_42 rfl ?_
      refine j_bind (fun r12 h13 => ?_)
      refine j_callV (y := y_X5_exponent) (I' := i_X5_exponent) (avs := [.inl (M0 308 x3), .inl x5]) (c := 279) (st := [.inl x5, .inr (.inr 311)]) (c_X5_exponent G (M0 308 x3) x5 M0 r12 h13) cs_Grower_312 wd_785 wd_715 wd_716 tg_279 rfl rfl rfl (Nat.le_of_ble_eq_true rfl) ⟨rfl, rfl⟩ ⟨by decide, by decide⟩ ⟨by decide, by decide⟩ d_X1_residueOnSide_44 ?_
      refine j_iload d_X1_residueOnSide_47 rfl ?_
      refine j_aload_n rfl d_X1_residueOnSide_49 rfl ?_
      refine j_getr fl_Grower_299 hg_x2 (fam_7_6 _ hg_x2).1 d_X1_residueOnSide_50 ?_
      refine j_iload d_X1_residueOnSide_53 rfl ?_
      refine j_iald ((fam_7_6 _ hg_x2).2.1) ((fam_7_6 _ hg_x2).2.2) d_X1_residueOnSide_55 ?_
      refine j_imul d_X1_residueOnSide_56 ?_
      refine j_iadd d_X1_residueOnSide_57 ?_
      refine j_goto (tgt := 62) d_X1_residueOnSide_58 (by decide) ?_
      exact j_wk [true, true, true, true, true, true] rfl rfl (T_X1_residueOnSide_62 G rec_10 x1 x2 x3 x4 x5 (tp_w (r12 + (tp_w (x4 * (M0 (x2 + 1) x5))))) x5 M0 hrec_10 hg_x1 hg_x2)
def f_X1_residueOnSide_10 (x1 : Int) (x2 : Int) (x3 : Int) (x4 : Int) (x5 : Int) (M0 : tp_M) : Option (Int × tp_M) := tp_lp (σ := Int × tp_M) (fun rec_ u => f_X1_residueOnSide_10B x1 x2 x3 x4 (fun x5' M0' => rec_ (x5', M0')) u.1 u.2) tp_N (x5, M0)
set_option maxHeartbeats 4000000 in
set_option maxRecDepth 100000 in
theorem T_X1_residueOnSide_10 (G : tp_G) (x1 : Int) (x2 : Int) (x3 : Int) (x4 : Int) (x5 : Int) (M0 : tp_M) (hg_x1 : tp_tg x1 = 2) (hg_x2 : tp_tg x2 = 7) : tp_J i_X1_residueOnSide (tp_rm 2) G 0 0 o_X1_residueOnSide tp_NC (tp_st M0) 0 0 [some (.inr (.inr 278)), some (.inr (.inr x1)), some (.inr (.inr x2)), some (.inl x3), some (.inl x4), some (.inl x5)] 10 [] (f_X1_residueOnSide_10 x1 x2 x3 x4 x5 M0) := by
  unfold f_X1_residueOnSide_10
  exact j_lp (σ := Int × tp_M) (n' := fun _ => tp_NC) (g' := fun u => tp_st u.2) (k' := fun _ => 0) (q' := fun _ => 0) (lv' := fun u => [some (.inr (.inr 278)), some (.inr (.inr x1)), some (.inr (.inr x2)), some (.inl x3), some (.inl x4), some (.inl u.1)]) (fun rec_ hrec u => T_X1_residueOnSide_10B G x1 x2 x3 x4 hg_x1 hg_x2 (fun x5' M0' => rec_ (x5', M0')) (fun x5' M0' => hrec (x5', M0')) u.1 u.2) tp_N (x5, M0)
def f_X1_residueOnSide (a0 : Int) (a1 : Int) (a2 : Int) (a3 : Int) (M0 : tp_M) : Option (Int × tp_M) :=
  if tp_tg a0 = 2 then
    if tp_tg a1 = 7 then
      if (0 : Int) ≤ 0 ∧ (0 : Int) < 8 then
        tp_mp (tp_up M0 311 0 0) fun M3 =>
        f_X1_residueOnSide_10 a0 a1 a2 a3 1 M3 else none else none else none
set_option maxHeartbeats 4000000 in
set_option maxRecDepth 100000 in
theorem T_X1_residueOnSide (G : tp_G) (a0 : Int) (a1 : Int) (a2 : Int) (a3 : Int) (M0 : tp_M) : tp_J i_X1_residueOnSide (tp_rm 2) G 0 0 o_X1_residueOnSide tp_NC (tp_st M0) 0 0 [some (.inr (.inr 278)), some (.inr (.inr a0)), some (.inr (.inr a1)), some (.inl a2), some (.inl a3), none] 0 [] (f_X1_residueOnSide a0 a1 a2 a3 M0) := by
  unfold f_X1_residueOnSide
  refine tp_chk (fun ht1 => ?_)
  refine tp_chk (fun ht2 => ?_)
  refine j_aload_n rfl d_X1_residueOnSide_0 rfl ?_
  refine j_getr fl_Grower_50 tg_278 rv_278_12 d_X1_residueOnSide_1 ?_
  refine j_iconst ⟨by decide, by decide⟩ d_X1_residueOnSide_4 ?_
  refine j_iconst ⟨by decide, by decide⟩ d_X1_residueOnSide_5 ?_
  refine j_iast tg_311 al_311 d_X1_residueOnSide_6 (fun M3 hM3 => ?_)
  refine j_iconst ⟨by decide, by decide⟩ d_X1_residueOnSide_7 ?_
  refine j_istore (lv' := [some (.inr (.inr 278)), some (.inr (.inr a0)), some (.inr (.inr a1)), some (.inl a2), some (.inl a3), some (.inl 1)]) d_X1_residueOnSide_8 (Nat.le_of_ble_eq_true rfl) rfl ?_
  exact j_wk [true, true, true, true, true, true] rfl rfl (T_X1_residueOnSide_10 G a0 a1 a2 a3 1 M3 ht1 ht2)
set_option maxHeartbeats 4000000 in
set_option maxRecDepth 100000 in
theorem c_X1_residueOnSide (G : tp_G) (a0 : Int) (a1 : Int) (a2 : Int) (a3 : Int) (M0 : tp_M) (r : Int × tp_M) (h : f_X1_residueOnSide a0 a1 a2 a3 M0 = some r) (l : Launch) : Met l y_X1_residueOnSide (tp_ws y_X1_residueOnSide i_X1_residueOnSide) (tp_rm 2) (tp_Pc G [.inr (.inr 278), .inr (.inr a0), .inr (.inr a1), .inl a2, .inl a3] tp_NC (tp_st M0)) (tp_Q G (o_X1_residueOnSide r)) 0 0 (tp_A G) :=
  tp_met (I := i_X1_residueOnSide) (y := y_X1_residueOnSide) (by decide +kernel) (Eq.refl "TypesAtPrime$Grower") (Eq.refl "residueOnSide") (lv := [some (.inr (.inr 278)), some (.inr (.inr a0)), some (.inr (.inr a1)), some (.inl a2), some (.inl a3), none]) rfl (Nat.le_of_ble_eq_true rfl) (T_X1_residueOnSide G a0 a1 a2 a3 M0) h l
theorem wd_242 : (.fieldLink "TypesAtPrime$Grower" 166 "TypesAtPrime$Side" "residual" "[I" : Cond) ∈ lw_tbl := List.mem_append_right _ (List.mem_of_getElem? (i := 242) (by decide +kernel))
theorem fl_Grower_166 : tp_F "TypesAtPrime$Grower" 166 7 7 2 := ⟨_, _, _, rfl, by decide, rfl, wd_242, rfl, by decide⟩
theorem fam_7_7 : ∀ c : Int, tp_tg c = 7 → tp_rv c 7 = c + 2 ∧ tp_tg (c + 2) = 21 ∧ tp_al (c + 2) = 9 := by
  intro c hc
  obtain ⟨h0, xs, -, h2⟩ := tp_tg_at (t := 7) hc
  have h : (List.range tp_NC).all (fun i => decide (tp_tg (i : Int) = 7 → tp_rv (i : Int) 7 = (i : Int) + 2 ∧ tp_tg ((i : Int) + 2) = 21 ∧ tp_al ((i : Int) + 2) = 9)) = true := by decide +kernel
  have h3 := List.all_eq_true.mp h c.toNat (List.mem_range.mpr h2)
  have h4 : ((c.toNat : Nat) : Int) = c := by omega
  rw [h4] at h3
  exact of_decide_eq_true h3 hc
theorem cs_Grower_305 : tp_CS "TypesAtPrime$Grower" 305 y_J7_fill_53178 i_J7_fill_53178 2 := ⟨wd_486, wd_14, by decide, by decide, by decide +kernel⟩
theorem wd_780 : (.methodLink "TypesAtPrime$Grower" 305 ⟨"java/util/Arrays", "fill", "([II)V"⟩ : Cond) ∈ lw_tbl := List.mem_append_right _ (List.mem_of_getElem? (i := 780) (by decide +kernel))
theorem wd_784 : (.code ⟨"TypesAtPrime$Grower", "residueOnSide", "(LTypesAtPrime$Knot;LTypesAtPrime$Side;II)I"⟩ prog_3_method_15_code 6 (some .int) : Cond) ∈ lw_tbl := List.mem_append_right _ (List.mem_of_getElem? (i := 784) (by decide +kernel))
theorem cs_Grower_308 : tp_CS "TypesAtPrime$Grower" 308 y_X1_residueOnSide i_X1_residueOnSide 4 := ⟨wd_784, wd_10, by decide, by decide, by decide +kernel⟩
theorem wd_781 : (.methodLink "TypesAtPrime$Grower" 308 ⟨"TypesAtPrime$Grower", "residueOnSide", "(LTypesAtPrime$Knot;LTypesAtPrime$Side;II)I"⟩ : Cond) ∈ lw_tbl := List.mem_append_right _ (List.mem_of_getElem? (i := 781) (by decide +kernel))
theorem wd_783 : (.instanceMethod ⟨"TypesAtPrime$Grower", "residueOnSide", "(LTypesAtPrime$Knot;LTypesAtPrime$Side;II)I"⟩ : Cond) ∈ lw_tbl := List.mem_append_right _ (List.mem_of_getElem? (i := 783) (by decide +kernel))
theorem ws_28 : (.selects "TypesAtPrime$Grower" ⟨"TypesAtPrime$Grower", "residueOnSide", "(LTypesAtPrime$Knot;LTypesAtPrime$Side;II)I"⟩ ⟨"TypesAtPrime$Grower", "residueOnSide", "(LTypesAtPrime$Knot;LTypesAtPrime$Side;II)I"⟩ : Cond) ∈ lw_tbl := List.mem_append_left _ (List.mem_of_getElem? (i := 28) (by decide +kernel))
def y_X1_writeResidual : MethodName := ⟨"TypesAtPrime$Grower", "writeResidual", "(LTypesAtPrime$Knot;LTypesAtPrime$Side;)V"⟩
abbrev i_X1_writeResidual : tp_I := (prog_3_method_14_code, "TypesAtPrime$Grower", none, 6, "writeResidual")
abbrev o_X1_writeResidual : tp_M → tp_O := fun r => (none, tp_NC, tp_st r)
theorem d_X1_writeResidual_0 : decode prog_3_method_14_code 0 = .ok (.aload_n 2, 1) := by decide +kernel
theorem d_X1_writeResidual_1 : decode prog_3_method_14_code 1 = .ok (.ifnonnull 4, 3) := by decide +kernel
theorem d_X1_writeResidual_4 : decode prog_3_method_14_code 4 = .ok (.return_, 1) := by decide +kernel
theorem d_X1_writeResidual_5 : decode prog_3_method_14_code 5 = .ok (.aload_n 2, 1) := by decide +kernel
theorem d_X1_writeResidual_6 : decode prog_3_method_14_code 6 = .ok (.getfield 166, 3) := by decide +kernel
theorem d_X1_writeResidual_9 : decode prog_3_method_14_code 9 = .ok (.iconst 0, 1) := by decide +kernel
theorem d_X1_writeResidual_10 : decode prog_3_method_14_code 10 = .ok (.invokestatic 305, 3) := by decide +kernel
theorem d_X1_writeResidual_13 : decode prog_3_method_14_code 13 = .ok (.aload_n 2, 1) := by decide +kernel
theorem d_X1_writeResidual_14 : decode prog_3_method_14_code 14 = .ok (.getfield 285, 3) := by decide +kernel
theorem d_X1_writeResidual_17 : decode prog_3_method_14_code 17 = .ok (.aload_n 2, 1) := by decide +kernel
theorem d_X1_writeResidual_18 : decode prog_3_method_14_code 18 = .ok (.getfield 291, 3) := by decide +kernel
theorem d_X1_writeResidual_21 : decode prog_3_method_14_code 21 = .ok (.invokestatic 293, 3) := by decide +kernel
theorem d_X1_writeResidual_24 : decode prog_3_method_14_code 24 = .ok (.istore_n 3, 1) := by decide +kernel
theorem d_X1_writeResidual_25 : decode prog_3_method_14_code 25 = .ok (.iconst 0, 1) := by decide +kernel
theorem d_X1_writeResidual_26 : decode prog_3_method_14_code 26 = .ok (.istore 4, 2) := by decide +kernel
theorem d_X1_writeResidual_28 : decode prog_3_method_14_code 28 = .ok (.iload 4, 2) := by decide +kernel
theorem d_X1_writeResidual_30 : decode prog_3_method_14_code 30 = .ok (.aload_n 2, 1) := by decide +kernel
theorem d_X1_writeResidual_31 : decode prog_3_method_14_code 31 = .ok (.getfield 291, 3) := by decide +kernel
theorem d_X1_writeResidual_34 : decode prog_3_method_14_code 34 = .ok (.if_icmp .gt 95, 3) := by decide +kernel
theorem d_X1_writeResidual_37 : decode prog_3_method_14_code 37 = .ok (.iload 4, 2) := by decide +kernel
theorem d_X1_writeResidual_39 : decode prog_3_method_14_code 39 = .ok (.bipush 9, 2) := by decide +kernel
theorem d_X1_writeResidual_41 : decode prog_3_method_14_code 41 = .ok (.if_icmp .ge 88, 3) := by decide +kernel
theorem d_X1_writeResidual_44 : decode prog_3_method_14_code 44 = .ok (.aload_n 2, 1) := by decide +kernel
theorem d_X1_writeResidual_45 : decode prog_3_method_14_code 45 = .ok (.getfield 279, 3) := by decide +kernel
theorem d_X1_writeResidual_48 : decode prog_3_method_14_code 48 = .ok (.iload 4, 2) := by decide +kernel
theorem d_X1_writeResidual_50 : decode prog_3_method_14_code 50 = .ok (.aload_n 2, 1) := by decide +kernel
theorem d_X1_writeResidual_51 : decode prog_3_method_14_code 51 = .ok (.getfield 171, 3) := by decide +kernel
theorem d_X1_writeResidual_54 : decode prog_3_method_14_code 54 = .ok (.imul, 1) := by decide +kernel
theorem d_X1_writeResidual_55 : decode prog_3_method_14_code 55 = .ok (.iadd, 1) := by decide +kernel
theorem d_X1_writeResidual_56 : decode prog_3_method_14_code 56 = .ok (.istore 5, 2) := by decide +kernel
theorem d_X1_writeResidual_58 : decode prog_3_method_14_code 58 = .ok (.iload 5, 2) := by decide +kernel
theorem d_X1_writeResidual_60 : decode prog_3_method_14_code 60 = .ok (.invokestatic 244, 3) := by decide +kernel
theorem d_X1_writeResidual_63 : decode prog_3_method_14_code 63 = .ok (.ifCond .eq 60, 3) := by decide +kernel
theorem d_X1_writeResidual_66 : decode prog_3_method_14_code 66 = .ok (.aload_n 2, 1) := by decide +kernel
theorem d_X1_writeResidual_67 : decode prog_3_method_14_code 67 = .ok (.getfield 279, 3) := by decide +kernel
theorem d_X1_writeResidual_70 : decode prog_3_method_14_code 70 = .ok (.invokestatic 244, 3) := by decide +kernel
theorem d_X1_writeResidual_73 : decode prog_3_method_14_code 73 = .ok (.ifCond .ne 6, 3) := by decide +kernel
theorem d_X1_writeResidual_76 : decode prog_3_method_14_code 76 = .ok (.goto 47, 3) := by decide +kernel
theorem d_X1_writeResidual_79 : decode prog_3_method_14_code 79 = .ok (.aload_n 1, 1) := by decide +kernel
theorem d_X1_writeResidual_80 : decode prog_3_method_14_code 80 = .ok (.getfield 228, 3) := by decide +kernel
theorem d_X1_writeResidual_83 : decode prog_3_method_14_code 83 = .ok (.iload 5, 2) := by decide +kernel
theorem d_X1_writeResidual_85 : decode prog_3_method_14_code 85 = .ok (.iaload, 1) := by decide +kernel
theorem d_X1_writeResidual_86 : decode prog_3_method_14_code 86 = .ok (.aload_n 1, 1) := by decide +kernel
theorem d_X1_writeResidual_87 : decode prog_3_method_14_code 87 = .ok (.getfield 228, 3) := by decide +kernel
theorem d_X1_writeResidual_90 : decode prog_3_method_14_code 90 = .ok (.aload_n 2, 1) := by decide +kernel
theorem d_X1_writeResidual_91 : decode prog_3_method_14_code 91 = .ok (.getfield 279, 3) := by decide +kernel
theorem d_X1_writeResidual_94 : decode prog_3_method_14_code 94 = .ok (.iaload, 1) := by decide +kernel
theorem d_X1_writeResidual_95 : decode prog_3_method_14_code 95 = .ok (.iload 4, 2) := by decide +kernel
theorem d_X1_writeResidual_97 : decode prog_3_method_14_code 97 = .ok (.iload_n 3, 1) := by decide +kernel
theorem d_X1_writeResidual_98 : decode prog_3_method_14_code 98 = .ok (.imul, 1) := by decide +kernel
theorem d_X1_writeResidual_99 : decode prog_3_method_14_code 99 = .ok (.isub, 1) := by decide +kernel
theorem d_X1_writeResidual_100 : decode prog_3_method_14_code 100 = .ok (.if_icmp .eq 6, 3) := by decide +kernel
theorem d_X1_writeResidual_103 : decode prog_3_method_14_code 103 = .ok (.goto 20, 3) := by decide +kernel
theorem d_X1_writeResidual_106 : decode prog_3_method_14_code 106 = .ok (.aload_n 2, 1) := by decide +kernel
theorem d_X1_writeResidual_107 : decode prog_3_method_14_code 107 = .ok (.getfield 166, 3) := by decide +kernel
theorem d_X1_writeResidual_110 : decode prog_3_method_14_code 110 = .ok (.iload 4, 2) := by decide +kernel
theorem d_X1_writeResidual_112 : decode prog_3_method_14_code 112 = .ok (.aload_n 0, 1) := by decide +kernel
theorem d_X1_writeResidual_113 : decode prog_3_method_14_code 113 = .ok (.aload_n 1, 1) := by decide +kernel
theorem d_X1_writeResidual_114 : decode prog_3_method_14_code 114 = .ok (.aload_n 2, 1) := by decide +kernel
theorem d_X1_writeResidual_115 : decode prog_3_method_14_code 115 = .ok (.iload 5, 2) := by decide +kernel
theorem d_X1_writeResidual_117 : decode prog_3_method_14_code 117 = .ok (.iload 4, 2) := by decide +kernel
theorem d_X1_writeResidual_119 : decode prog_3_method_14_code 119 = .ok (.invokevirtual 308, 3) := by decide +kernel
theorem d_X1_writeResidual_122 : decode prog_3_method_14_code 122 = .ok (.iastore, 1) := by decide +kernel
theorem d_X1_writeResidual_123 : decode prog_3_method_14_code 123 = .ok (.iinc 4 1, 3) := by decide +kernel
theorem d_X1_writeResidual_126 : decode prog_3_method_14_code 126 = .ok (.goto (-98), 3) := by decide +kernel
theorem d_X1_writeResidual_129 : decode prog_3_method_14_code 129 = .ok (.return_, 1) := by decide +kernel
def f_X1_writeResidual_123 (rec_28 : Int → tp_M → Option (tp_M)) (x1 : Int) (x2 : Int) (x3 : Int) (x4 : Int) (M0 : tp_M) : Option (tp_M) :=
  tp_lt (tp_w (x4 + 1)) fun y14 =>
  rec_28 y14 M0
set_option maxHeartbeats 4000000 in
set_option maxRecDepth 100000 in
theorem T_X1_writeResidual_123 (G : tp_G) (rec_28 : Int → tp_M → Option (tp_M)) (x1 : Int) (x2 : Int) (x3 : Int) (x4 : Int) (M0 : tp_M) (hrec_28 : ∀ (x4' : Int) (M' : tp_M), tp_J i_X1_writeResidual (tp_rm 3) G 0 0 o_X1_writeResidual tp_NC (tp_st M') 0 0 [some (.inr (.inr 278)), some (.inr (.inr x1)), some (.inr (.inr x2)), some (.inl x3), some (.inl (x4')), none] 28 [] (rec_28 x4' M')) (hg_x1 : tp_tg x1 = 2) (hg_x2 : tp_tg x2 = 7) : tp_J i_X1_writeResidual (tp_rm 3) G 0 0 o_X1_writeResidual tp_NC (tp_st M0) 0 0 [some (.inr (.inr 278)), some (.inr (.inr x1)), some (.inr (.inr x2)), some (.inl x3), some (.inl x4), none] 123 [] (f_X1_writeResidual_123 rec_28 x1 x2 x3 x4 M0) := by
  unfold f_X1_writeResidual_123
  refine j_iincN (lv' := fun y14 => [some (.inr (.inr 278)), some (.inr (.inr x1)), some (.inr (.inr x2)), some (.inl x3), some (.inl y14), none]) d_X1_writeResidual_123 rfl (Nat.le_of_ble_eq_true rfl) (fun _ => rfl) (fun y14 hy14 => ?_)
  refine j_goto (tgt := 28) d_X1_writeResidual_126 (by decide) ?_
  exact j_wk [true, true, true, true, true, false] rfl rfl (hrec_28 y14 M0)
def f_X1_writeResidual_28B (x1 : Int) (x2 : Int) (x3 : Int) (rec_28 : Int → tp_M → Option (tp_M)) (x4 : Int) (M0 : tp_M) : Option (tp_M) :=
  if (M0 x2 4) < x4 then
    some M0
  else
    if 9 ≤ x4 then
      some M0
    else
      tp_lt ((tp_w ((M0 x2 0) + (tp_w (x4 * (M0 x2 3)))))) fun y10 =>
      (f_X10_isPower y10 M0).bind fun r11 =>
      if r11 = 0 then
        f_X1_writeResidual_123 rec_28 x1 x2 x3 x4 M0
      else
        (f_X10_isPower (M0 x2 0) M0).bind fun r15 =>
        if ¬ r15 = 0 then
          if 0 ≤ y10 ∧ y10 < 9 then
            if 0 ≤ (M0 x2 0) ∧ (M0 x2 0) < 9 then
              if (M0 (x1 + 2) y10) = (tp_w ((M0 (x1 + 2) (M0 x2 0)) - (tp_w (x4 * x3)))) then
                (f_X1_residueOnSide x1 x2 y10 x4 M0).bind fun r19 =>
                if 0 ≤ x4 ∧ x4 < 9 then
                  tp_mp (tp_up r19.2 (x2 + 2) x4 r19.1) fun M21 =>
                  f_X1_writeResidual_123 rec_28 x1 x2 x3 x4 M21 else none
              else
                f_X1_writeResidual_123 rec_28 x1 x2 x3 x4 M0 else none else none
        else
          f_X1_writeResidual_123 rec_28 x1 x2 x3 x4 M0
set_option maxHeartbeats 4000000 in
set_option maxRecDepth 100000 in
theorem T_X1_writeResidual_28B (G : tp_G) (x1 : Int) (x2 : Int) (x3 : Int) (hg_x1 : tp_tg x1 = 2) (hg_x2 : tp_tg x2 = 7) (rec_28 : Int → tp_M → Option (tp_M)) (hrec_28 : ∀ (x4' : Int) (M' : tp_M), tp_J i_X1_writeResidual (tp_rm 3) G 0 0 o_X1_writeResidual tp_NC (tp_st M') 0 0 [some (.inr (.inr 278)), some (.inr (.inr x1)), some (.inr (.inr x2)), some (.inl x3), some (.inl (x4')), none] 28 [] (rec_28 x4' M')) (x4 : Int) (M0 : tp_M) : tp_J i_X1_writeResidual (tp_rm 3) G 0 0 o_X1_writeResidual tp_NC (tp_st M0) 0 0 [some (.inr (.inr 278)), some (.inr (.inr x1)), some (.inr (.inr x2)), some (.inl x3), some (.inl x4), none] 28 [] (f_X1_writeResidual_28B x1 x2 x3 rec_28 x4 M0) := by
  unfold f_X1_writeResidual_28B
  refine j_iload d_X1_writeResidual_28 rfl ?_
  refine j_aload_n rfl d_X1_writeResidual_30 rfl ?_
  refine j_geti fl_Grower_291 hg_x2 d_X1_writeResidual_31 ?_
  refine j_icmp_gt (tgt := 129) d_X1_writeResidual_34 (by decide) (fun h8 => ?_) (fun h8 => ?_)
  · exact j_vret d_X1_writeResidual_129 rfl rfl ⟨rfl, rfl⟩
  · refine j_iload d_X1_writeResidual_37 rfl ?_
    refine j_bipush ⟨by decide, by decide⟩ (by decide +kernel) d_X1_writeResidual_39 ?_
    refine j_icmp_ge (tgt := 129) d_X1_writeResidual_41 (by decide) (fun h9 => ?_) (fun h9 => ?_)
    · exact j_vret d_X1_writeResidual_129 rfl rfl ⟨rfl, rfl⟩
    · refine j_aload_n rfl d_X1_writeResidual_44 rfl ?_
      refine j_geti fl_Grower_279 hg_x2 d_X1_writeResidual_45 ?_
      refine j_iload d_X1_writeResidual_48 rfl ?_
      refine j_aload_n rfl d_X1_writeResidual_50 rfl ?_
      refine j_geti fl_Grower_171 hg_x2 d_X1_writeResidual_51 ?_
      refine j_imul d_X1_writeResidual_54 ?_
      refine j_iadd d_X1_writeResidual_55 ?_
      refine j_nmI (fun y10 hy10 => ?_)
      refine j_istore (lv' := [some (.inr (.inr 278)), some (.inr (.inr x1)), some (.inr (.inr x2)), some (.inl x3), some (.inl x4), some (.inl y10)]) d_X1_writeResidual_56 (Nat.le_of_ble_eq_true rfl) rfl ?_
      refine j_iload d_X1_writeResidual_58 rfl ?_
      refine j_bind (fun r11 h12 => ?_)
      refine j_callSN (y := y_X10_isPower) (I' := i_X10_isPower) (avs := [.inl y10]) (st := []) (c_X10_isPower G y10 M0 r11 h12) cs_Grower_244 (by decide +kernel : (.methodLinkNest "TypesAtPrime$Grower" 244 ⟨"TypesAtPrime", "isPower", "(I)Z"⟩ "TypesAtPrime" : Cond) ∈ tp_nest) wd_524 rfl rfl (Nat.le_of_ble_eq_true rfl) ⟨rfl, rfl⟩ ⟨by decide, by decide⟩ ⟨by decide, by decide⟩ d_X1_writeResidual_60 ?_
      refine j_if_eq (tgt := 123) d_X1_writeResidual_63 (by decide) (fun h13 => ?_) (fun h13 => ?_)
      · exact j_wk [true, true, true, true, true, false] rfl rfl (T_X1_writeResidual_123 G rec_28 x1 x2 x3 x4 M0 hrec_28 hg_x1 hg_x2)
      · refine j_aload_n rfl d_X1_writeResidual_66 rfl ?_
        refine j_geti fl_Grower_279 hg_x2 d_X1_writeResidual_67 ?_
        refine j_bind (fun r15 h16 => ?_)
        refine j_callSN (y := y_X10_isPower) (I' := i_X10_isPower) (avs := [.inl (M0 x2 0)]) (st := []) (c_X10_isPower G (M0 x2 0) M0 r15 h16) cs_Grower_244 (by decide +kernel : (.methodLinkNest "TypesAtPrime$Grower" 244 ⟨"TypesAtPrime", "isPower", "(I)Z"⟩ "TypesAtPrime" : Cond) ∈ tp_nest) wd_524 rfl rfl (Nat.le_of_ble_eq_true rfl) ⟨rfl, rfl⟩ ⟨by decide, by decide⟩ ⟨by decide, by decide⟩ d_X1_writeResidual_70 ?_
        refine j_if_ne (tgt := 79) d_X1_writeResidual_73 (by decide) (fun h17 => ?_) (fun h17 => ?_)
        · refine j_aload_n rfl d_X1_writeResidual_79 rfl ?_
          refine j_getr fl_Grower_228 hg_x1 (fam_2_9 _ hg_x1).1 d_X1_writeResidual_80 ?_
          refine j_iload d_X1_writeResidual_83 rfl ?_
          refine j_iald ((fam_2_9 _ hg_x1).2.1) ((fam_2_9 _ hg_x1).2.2) d_X1_writeResidual_85 ?_
          refine j_aload_n rfl d_X1_writeResidual_86 rfl ?_
          refine j_getr fl_Grower_228 hg_x1 (fam_2_9 _ hg_x1).1 d_X1_writeResidual_87 ?_
          refine j_aload_n rfl d_X1_writeResidual_90 rfl ?_
          refine j_geti fl_Grower_279 hg_x2 d_X1_writeResidual_91 ?_
          refine j_iald ((fam_2_9 _ hg_x1).2.1) ((fam_2_9 _ hg_x1).2.2) d_X1_writeResidual_94 ?_
          refine j_iload d_X1_writeResidual_95 rfl ?_
          refine j_iload_n rfl d_X1_writeResidual_97 rfl ?_
          refine j_imul d_X1_writeResidual_98 ?_
          refine j_isub d_X1_writeResidual_99 ?_
          refine j_icmp_eq (tgt := 106) d_X1_writeResidual_100 (by decide) (fun h18 => ?_) (fun h18 => ?_)
          · refine j_aload_n rfl d_X1_writeResidual_106 rfl ?_
            refine j_getr fl_Grower_166 hg_x2 (fam_7_7 _ hg_x2).1 d_X1_writeResidual_107 ?_
            refine j_iload d_X1_writeResidual_110 rfl ?_
            refine j_aload_n rfl d_X1_writeResidual_112 rfl ?_
            refine j_aload_n rfl d_X1_writeResidual_113 rfl ?_
            refine j_aload_n rfl d_X1_writeResidual_114 rfl ?_
            refine j_iload d_X1_writeResidual_115 rfl ?_
            refine j_iload d_X1_writeResidual_117 rfl ?_
            refine j_bind (fun r19 h20 => ?_)
            refine j_callV (y := y_X1_residueOnSide) (I' := i_X1_residueOnSide) (avs := [.inr (.inr x1), .inr (.inr x2), .inl y10, .inl x4]) (c := 278) (st := [.inl x4, .inr (.inr (x2 + 2))]) (c_X1_residueOnSide G x1 x2 y10 x4 M0 r19 h20) cs_Grower_308 wd_781 wd_783 ws_28 tg_278 rfl rfl rfl (Nat.le_of_ble_eq_true rfl) ⟨rfl, rfl⟩ ⟨by decide, by decide⟩ ⟨by decide, by decide⟩ d_X1_writeResidual_119 ?_
            refine j_iast ((fam_7_7 _ hg_x2).2.1) ((fam_7_7 _ hg_x2).2.2) d_X1_writeResidual_122 (fun M21 hM21 => ?_)
            exact j_wk [true, true, true, true, true, false] rfl rfl (T_X1_writeResidual_123 G rec_28 x1 x2 x3 x4 M21 hrec_28 hg_x1 hg_x2)
          · refine j_goto (tgt := 123) d_X1_writeResidual_103 (by decide) ?_
            exact j_wk [true, true, true, true, true, false] rfl rfl (T_X1_writeResidual_123 G rec_28 x1 x2 x3 x4 M0 hrec_28 hg_x1 hg_x2)
        · refine j_goto (tgt := 123) d_X1_writeResidual_76 (by decide) ?_
          exact j_wk [true, true, true, true, true, false] rfl rfl (T_X1_writeResidual_123 G rec_28 x1 x2 x3 x4 M0 hrec_28 hg_x1 hg_x2)
def f_X1_writeResidual_28 (x1 : Int) (x2 : Int) (x3 : Int) (x4 : Int) (M0 : tp_M) : Option (tp_M) := tp_lp (σ := Int × tp_M) (fun rec_ u => f_X1_writeResidual_28B x1 x2 x3 (fun x4' M0' => rec_ (x4', M0')) u.1 u.2) tp_N (x4, M0)
set_option maxHeartbeats 4000000 in
set_option maxRecDepth 100000 in
theorem T_X1_writeResidual_28 (G : tp_G) (x1 : Int) (x2 : Int) (x3 : Int) (x4 : Int) (M0 : tp_M) (hg_x1 : tp_tg x1 = 2) (hg_x2 : tp_tg x2 = 7) : tp_J i_X1_writeResidual (tp_rm 3) G 0 0 o_X1_writeResidual tp_NC (tp_st M0) 0 0 [some (.inr (.inr 278)), some (.inr (.inr x1)), some (.inr (.inr x2)), some (.inl x3), some (.inl x4), none] 28 [] (f_X1_writeResidual_28 x1 x2 x3 x4 M0) := by
  unfold f_X1_writeResidual_28
  exact j_lp (σ := Int × tp_M) (n' := fun _ => tp_NC) (g' := fun u => tp_st u.2) (k' := fun _ => 0) (q' := fun _ => 0) (lv' := fun u => [some (.inr (.inr 278)), some (.inr (.inr x1)), some (.inr (.inr x2)), some (.inl x3), some (.inl u.1), none]) (fun rec_ hrec u => T_X1_writeResidual_28B G x1 x2 x3 hg_x1 hg_x2 (fun x4' M0' => rec_ (x4', M0')) (fun x4' M0' => hrec (x4', M0')) u.1 u.2) tp_N (x4, M0)
def f_X1_writeResidual (a0 : Int) (a1 : Int) (M0 : tp_M) : Option (tp_M) :=
  if tp_tg a0 = 2 then
    if tp_tg a1 = 7 then
      if a1 = -1 then
        some M0
      else
        (f_J7_fill_53178 (a1 + 2) 0 M0).bind fun r4 =>
        (f_X10_quotient (r4 a1 2) (r4 a1 4) r4).bind fun r6 =>
        f_X1_writeResidual_28 a0 a1 r6 0 r4 else none else none
set_option maxHeartbeats 4000000 in
set_option maxRecDepth 100000 in
theorem T_X1_writeResidual (G : tp_G) (a0 : Int) (a1 : Int) (M0 : tp_M) : tp_J i_X1_writeResidual (tp_rm 3) G 0 0 o_X1_writeResidual tp_NC (tp_st M0) 0 0 [some (.inr (.inr 278)), some (.inr (.inr a0)), some (.inr (.inr a1)), none, none, none] 0 [] (f_X1_writeResidual a0 a1 M0) := by
  unfold f_X1_writeResidual
  refine tp_chk (fun ht1 => ?_)
  refine tp_chk (fun ht2 => ?_)
  refine j_aload_n rfl d_X1_writeResidual_0 rfl ?_
  refine j_ifnonnull (tgt := 5) d_X1_writeResidual_1 (by decide) (fun h3 => ?_) (fun h3 => ?_)
  · exact j_vret d_X1_writeResidual_4 rfl rfl ⟨rfl, rfl⟩
  · refine j_aload_n rfl d_X1_writeResidual_5 rfl ?_
    refine j_getr fl_Grower_166 ht2 (fam_7_7 _ ht2).1 d_X1_writeResidual_6 ?_
    refine j_iconst ⟨by decide, by decide⟩ d_X1_writeResidual_9 ?_
    refine j_bind (fun r4 h5 => ?_)
    refine j_callS (y := y_J7_fill_53178) (I' := i_J7_fill_53178) (avs := [.inr (.inr (a1 + 2)), .inl 0]) (st := []) (c_J7_fill_53178 G (a1 + 2) 0 M0 r4 h5) cs_Grower_305 wd_780 wd_485 rfl rfl (Nat.le_of_ble_eq_true rfl) ⟨rfl, rfl⟩ ⟨by decide, by decide⟩ ⟨by decide, by decide⟩ d_X1_writeResidual_10 ?_
    refine j_aload_n rfl d_X1_writeResidual_13 rfl ?_
    refine j_geti fl_Grower_285 ht2 d_X1_writeResidual_14 ?_
    refine j_aload_n rfl d_X1_writeResidual_17 rfl ?_
    refine j_geti fl_Grower_291 ht2 d_X1_writeResidual_18 ?_
    refine j_bind (fun r6 h7 => ?_)
    refine j_callSN (y := y_X10_quotient) (I' := i_X10_quotient) (avs := [.inl (r4 a1 2), .inl (r4 a1 4)]) (st := []) (c_X10_quotient G (r4 a1 2) (r4 a1 4) r4 r6 h7) cs_Grower_293 (by decide +kernel : (.methodLinkNest "TypesAtPrime$Grower" 293 ⟨"TypesAtPrime", "quotient", "(II)I"⟩ "TypesAtPrime" : Cond) ∈ tp_nest) wd_622 rfl rfl (Nat.le_of_ble_eq_true rfl) ⟨rfl, rfl⟩ ⟨by decide, by decide⟩ ⟨by decide, by decide⟩ d_X1_writeResidual_21 ?_
    refine j_istore_n (lv' := [some (.inr (.inr 278)), some (.inr (.inr a0)), some (.inr (.inr a1)), some (.inl r6), none, none]) rfl d_X1_writeResidual_24 (Nat.le_of_ble_eq_true rfl) rfl ?_
    refine j_iconst ⟨by decide, by decide⟩ d_X1_writeResidual_25 ?_
    refine j_istore (lv' := [some (.inr (.inr 278)), some (.inr (.inr a0)), some (.inr (.inr a1)), some (.inl r6), some (.inl 0), none]) d_X1_writeResidual_26 (Nat.le_of_ble_eq_true rfl) rfl ?_
    exact j_wk [true, true, true, true, true, false] rfl rfl (T_X1_writeResidual_28 G a0 a1 r6 0 r4 ht1 ht2)
set_option maxHeartbeats 4000000 in
set_option maxRecDepth 100000 in
theorem c_X1_writeResidual (G : tp_G) (a0 : Int) (a1 : Int) (M0 : tp_M) (r : tp_M) (h : f_X1_writeResidual a0 a1 M0 = some r) (l : Launch) : Met l y_X1_writeResidual (tp_ws y_X1_writeResidual i_X1_writeResidual) (tp_rm 3) (tp_Pc G [.inr (.inr 278), .inr (.inr a0), .inr (.inr a1)] tp_NC (tp_st M0)) (tp_Q G (o_X1_writeResidual r)) 0 0 (tp_A G) :=
  tp_met (I := i_X1_writeResidual) (y := y_X1_writeResidual) (by decide +kernel) (Eq.refl "TypesAtPrime$Grower") (Eq.refl "writeResidual") (lv := [some (.inr (.inr 278)), some (.inr (.inr a0)), some (.inr (.inr a1)), none, none, none]) rfl (Nat.le_of_ble_eq_true rfl) (T_X1_writeResidual G a0 a1 M0) h l
theorem wd_164 : (.fieldLink "TypesAtPrime$Path" 34 "TypesAtPrime$Knot" "level" "I" : Cond) ∈ lw_tbl := List.mem_append_right _ (List.mem_of_getElem? (i := 164) (by decide +kernel))
theorem fl_Path_34 : tp_F "TypesAtPrime$Path" 34 2 0 0 := ⟨_, _, _, rfl, by decide, rfl, wd_164, rfl, by decide⟩
theorem wd_171 : (.fieldLink "TypesAtPrime$Path" 40 "TypesAtPrime$Knot" "degree" "I" : Cond) ∈ lw_tbl := List.mem_append_right _ (List.mem_of_getElem? (i := 171) (by decide +kernel))
theorem fl_Path_40 : tp_F "TypesAtPrime$Path" 40 2 2 0 := ⟨_, _, _, rfl, by decide, rfl, wd_171, rfl, by decide⟩
theorem wd_188 : (.fieldLink "TypesAtPrime$Path" 42 "TypesAtPrime$Knot" "key" "[J" : Cond) ∈ lw_tbl := List.mem_append_right _ (List.mem_of_getElem? (i := 188) (by decide +kernel))
theorem fl_Path_42 : tp_F "TypesAtPrime$Path" 42 2 8 2 := ⟨_, _, _, rfl, by decide, rfl, wd_188, rfl, by decide⟩
theorem wd_351 : (.fieldLink "TypesAtPrime$Path" 31 "TypesAtPrime$Path" "key" "[[J" : Cond) ∈ lw_tbl := List.mem_append_right _ (List.mem_of_getElem? (i := 351) (by decide +kernel))
theorem fl_Path_31 : tp_F "TypesAtPrime$Path" 31 5 5 2 := ⟨_, _, _, rfl, by decide, rfl, wd_351, rfl, by decide⟩
theorem wd_697 : (.methodLink "TypesAtPrime$Path" 45 ⟨"java/lang/System", "arraycopy", "(Ljava/lang/Object;ILjava/lang/Object;II)V"⟩ : Cond) ∈ lw_tbl := List.mem_append_right _ (List.mem_of_getElem? (i := 697) (by decide +kernel))
def y_X5_enterKnot : MethodName := ⟨"TypesAtPrime$Path", "enterKnot", "(LTypesAtPrime$Knot;)V"⟩
abbrev i_X5_enterKnot : tp_I := (prog_7_method_2_code, "TypesAtPrime$Path", none, 2, "enterKnot")
abbrev o_X5_enterKnot : tp_M → tp_O := fun r => (none, tp_NC, tp_st r)
theorem d_X5_enterKnot_0 : decode prog_7_method_2_code 0 = .ok (.aload_n 1, 1) := by decide +kernel
theorem d_X5_enterKnot_1 : decode prog_7_method_2_code 1 = .ok (.getfield 34, 3) := by decide +kernel
theorem d_X5_enterKnot_4 : decode prog_7_method_2_code 4 = .ok (.ifCond .lt 12, 3) := by decide +kernel
theorem d_X5_enterKnot_7 : decode prog_7_method_2_code 7 = .ok (.aload_n 1, 1) := by decide +kernel
theorem d_X5_enterKnot_8 : decode prog_7_method_2_code 8 = .ok (.getfield 34, 3) := by decide +kernel
theorem d_X5_enterKnot_11 : decode prog_7_method_2_code 11 = .ok (.bipush 8, 2) := by decide +kernel
theorem d_X5_enterKnot_13 : decode prog_7_method_2_code 13 = .ok (.if_icmp .lt 4, 3) := by decide +kernel
theorem d_X5_enterKnot_16 : decode prog_7_method_2_code 16 = .ok (.return_, 1) := by decide +kernel
theorem d_X5_enterKnot_17 : decode prog_7_method_2_code 17 = .ok (.aload_n 0, 1) := by decide +kernel
theorem d_X5_enterKnot_18 : decode prog_7_method_2_code 18 = .ok (.getfield 9, 3) := by decide +kernel
theorem d_X5_enterKnot_21 : decode prog_7_method_2_code 21 = .ok (.aload_n 1, 1) := by decide +kernel
theorem d_X5_enterKnot_22 : decode prog_7_method_2_code 22 = .ok (.getfield 34, 3) := by decide +kernel
theorem d_X5_enterKnot_25 : decode prog_7_method_2_code 25 = .ok (.aload_n 1, 1) := by decide +kernel
theorem d_X5_enterKnot_26 : decode prog_7_method_2_code 26 = .ok (.getfield 40, 3) := by decide +kernel
theorem d_X5_enterKnot_29 : decode prog_7_method_2_code 29 = .ok (.iastore, 1) := by decide +kernel
theorem d_X5_enterKnot_30 : decode prog_7_method_2_code 30 = .ok (.aload_n 1, 1) := by decide +kernel
theorem d_X5_enterKnot_31 : decode prog_7_method_2_code 31 = .ok (.getfield 42, 3) := by decide +kernel
theorem d_X5_enterKnot_34 : decode prog_7_method_2_code 34 = .ok (.iconst 0, 1) := by decide +kernel
theorem d_X5_enterKnot_35 : decode prog_7_method_2_code 35 = .ok (.aload_n 0, 1) := by decide +kernel
theorem d_X5_enterKnot_36 : decode prog_7_method_2_code 36 = .ok (.getfield 31, 3) := by decide +kernel
theorem d_X5_enterKnot_39 : decode prog_7_method_2_code 39 = .ok (.aload_n 1, 1) := by decide +kernel
theorem d_X5_enterKnot_40 : decode prog_7_method_2_code 40 = .ok (.getfield 34, 3) := by decide +kernel
theorem d_X5_enterKnot_43 : decode prog_7_method_2_code 43 = .ok (.aaload, 1) := by decide +kernel
theorem d_X5_enterKnot_44 : decode prog_7_method_2_code 44 = .ok (.iconst 0, 1) := by decide +kernel
theorem d_X5_enterKnot_45 : decode prog_7_method_2_code 45 = .ok (.bipush 9, 2) := by decide +kernel
theorem d_X5_enterKnot_47 : decode prog_7_method_2_code 47 = .ok (.invokestatic 45, 3) := by decide +kernel
theorem d_X5_enterKnot_50 : decode prog_7_method_2_code 50 = .ok (.return_, 1) := by decide +kernel
def f_X5_enterKnot (a0 : Int) (M0 : tp_M) : Option (tp_M) :=
  if tp_tg a0 = 2 then
    if (M0 a0 0) < 0 then
      some M0
    else
      if (M0 a0 0) < 8 then
        if 0 ≤ (M0 a0 0) ∧ (M0 a0 0) < 8 then
          tp_mp (tp_up M0 280 (M0 a0 0) (M0 a0 2)) fun M4 =>
          if 0 ≤ (M4 a0 0) ∧ (M4 a0 0) < 8 then
            if (0 : Int) ≤ 0 ∧ (0 : Int) ≤ 0 ∧ (0 : Int) ≤ 9 ∧ (0 + 9 : Int) ≤ 9 ∧ (0 + 9 : Int) ≤ 9 then
              tp_mp (tp_cp M4 (a0 + 1) 0 (294 + (M4 a0 0)) 0 9) fun M6 =>
              some M6 else none else none else none
      else
        some M0 else none
set_option maxHeartbeats 4000000 in
set_option maxRecDepth 100000 in
theorem T_X5_enterKnot (G : tp_G) (a0 : Int) (M0 : tp_M) : tp_J i_X5_enterKnot (tp_rm 1) G 0 0 o_X5_enterKnot tp_NC (tp_st M0) 0 0 [some (.inr (.inr 279)), some (.inr (.inr a0))] 0 [] (f_X5_enterKnot a0 M0) := by
  unfold f_X5_enterKnot
  refine tp_chk (fun ht1 => ?_)
  refine j_aload_n rfl d_X5_enterKnot_0 rfl ?_
  refine j_geti fl_Path_34 ht1 d_X5_enterKnot_1 ?_
  refine j_if_lt (tgt := 16) d_X5_enterKnot_4 (by decide) (fun h2 => ?_) (fun h2 => ?_)
  · exact j_vret d_X5_enterKnot_16 rfl rfl ⟨rfl, rfl⟩
  · refine j_aload_n rfl d_X5_enterKnot_7 rfl ?_
    refine j_geti fl_Path_34 ht1 d_X5_enterKnot_8 ?_
    refine j_bipush ⟨by decide, by decide⟩ (by decide +kernel) d_X5_enterKnot_11 ?_
    refine j_icmp_lt (tgt := 17) d_X5_enterKnot_13 (by decide) (fun h3 => ?_) (fun h3 => ?_)
    · refine j_aload_n rfl d_X5_enterKnot_17 rfl ?_
      refine j_getr fl_Path_9 tg_279 rv_279_0 d_X5_enterKnot_18 ?_
      refine j_aload_n rfl d_X5_enterKnot_21 rfl ?_
      refine j_geti fl_Path_34 ht1 d_X5_enterKnot_22 ?_
      refine j_aload_n rfl d_X5_enterKnot_25 rfl ?_
      refine j_geti fl_Path_40 ht1 d_X5_enterKnot_26 ?_
      refine j_iast tg_280 al_280 d_X5_enterKnot_29 (fun M4 hM4 => ?_)
      refine j_aload_n rfl d_X5_enterKnot_30 rfl ?_
      refine j_getr fl_Path_42 ht1 (fam_2_8 _ ht1).1 d_X5_enterKnot_31 ?_
      refine j_iconst ⟨by decide, by decide⟩ d_X5_enterKnot_34 ?_
      refine j_aload_n rfl d_X5_enterKnot_35 rfl ?_
      refine j_getr fl_Path_31 tg_279 rv_279_5 d_X5_enterKnot_36 ?_
      refine j_aload_n rfl d_X5_enterKnot_39 rfl ?_
      refine j_geti fl_Path_34 ht1 d_X5_enterKnot_40 ?_
      refine j_aald (v := (294 + (M4 a0 0))) (ty := (.array .long)) tg_293 (by decide) al_293 (by decide) rfl d_X5_enterKnot_43 (fun h1 h2 => (aa_293 _ h1 h2).1) (fun hi5 => ?_)
      refine j_iconst ⟨by decide, by decide⟩ d_X5_enterKnot_44 ?_
      refine j_bipush ⟨by decide, by decide⟩ (by decide +kernel) d_X5_enterKnot_45 ?_
      refine j_acpl ((fam_2_8 _ ht1).2.1) ((fam_2_8 _ ht1).2.2) ((aa_293 _ hi5.1 hi5.2).2.1) ((aa_293 _ hi5.1 hi5.2).2.2) wd_697 wd_594 wd_593 wd_15 ⟨(by decide : 1 ≤ ((tp_rm 1) : Room).frames), (by decide : 60 ≤ ((tp_rm 1) : Room).locals)⟩ (Nat.le_of_ble_eq_true rfl) d_X5_enterKnot_47 (fun M6 hM6 => ?_)
      exact j_vret d_X5_enterKnot_50 rfl rfl ⟨rfl, rfl⟩
    · exact j_vret d_X5_enterKnot_16 rfl rfl ⟨rfl, rfl⟩
set_option maxHeartbeats 4000000 in
set_option maxRecDepth 100000 in
theorem c_X5_enterKnot (G : tp_G) (a0 : Int) (M0 : tp_M) (r : tp_M) (h : f_X5_enterKnot a0 M0 = some r) (l : Launch) : Met l y_X5_enterKnot (tp_ws y_X5_enterKnot i_X5_enterKnot) (tp_rm 1) (tp_Pc G [.inr (.inr 279), .inr (.inr a0)] tp_NC (tp_st M0)) (tp_Q G (o_X5_enterKnot r)) 0 0 (tp_A G) :=
  tp_met (I := i_X5_enterKnot) (y := y_X5_enterKnot) (by decide +kernel) (Eq.refl "TypesAtPrime$Path") (Eq.refl "enterKnot") (lv := [some (.inr (.inr 279)), some (.inr (.inr a0))]) rfl (Nat.le_of_ble_eq_true rfl) (T_X5_enterKnot G a0 M0) h l
theorem wd_229 : (.fieldLink "TypesAtPrime$Path" 51 "TypesAtPrime$Side" "ramification" "I" : Cond) ∈ lw_tbl := List.mem_append_right _ (List.mem_of_getElem? (i := 229) (by decide +kernel))
theorem fl_Path_51 : tp_F "TypesAtPrime$Path" 51 7 3 0 := ⟨_, _, _, rfl, by decide, rfl, wd_229, rfl, by decide⟩
theorem wd_234 : (.fieldLink "TypesAtPrime$Path" 55 "TypesAtPrime$Side" "slopeValue" "I" : Cond) ∈ lw_tbl := List.mem_append_right _ (List.mem_of_getElem? (i := 234) (by decide +kernel))
theorem fl_Path_55 : tp_F "TypesAtPrime$Path" 55 7 5 0 := ⟨_, _, _, rfl, by decide, rfl, wd_234, rfl, by decide⟩
theorem wd_238 : (.fieldLink "TypesAtPrime$Path" 57 "TypesAtPrime$Side" "monomial" "[I" : Cond) ∈ lw_tbl := List.mem_append_right _ (List.mem_of_getElem? (i := 238) (by decide +kernel))
theorem fl_Path_57 : tp_F "TypesAtPrime$Path" 57 7 6 2 := ⟨_, _, _, rfl, by decide, rfl, wd_238, rfl, by decide⟩
def y_X5_enterSide : MethodName := ⟨"TypesAtPrime$Path", "enterSide", "(ILTypesAtPrime$Side;)V"⟩
abbrev i_X5_enterSide : tp_I := (prog_7_method_3_code, "TypesAtPrime$Path", none, 3, "enterSide")
abbrev o_X5_enterSide : tp_M → tp_O := fun r => (none, tp_NC, tp_st r)
theorem d_X5_enterSide_0 : decode prog_7_method_3_code 0 = .ok (.iload_n 1, 1) := by decide +kernel
theorem d_X5_enterSide_1 : decode prog_7_method_3_code 1 = .ok (.ifCond .lt 9, 3) := by decide +kernel
theorem d_X5_enterSide_4 : decode prog_7_method_3_code 4 = .ok (.iload_n 1, 1) := by decide +kernel
theorem d_X5_enterSide_5 : decode prog_7_method_3_code 5 = .ok (.bipush 8, 2) := by decide +kernel
theorem d_X5_enterSide_7 : decode prog_7_method_3_code 7 = .ok (.if_icmp .lt 4, 3) := by decide +kernel
theorem d_X5_enterSide_10 : decode prog_7_method_3_code 10 = .ok (.return_, 1) := by decide +kernel
theorem d_X5_enterSide_11 : decode prog_7_method_3_code 11 = .ok (.aload_n 0, 1) := by decide +kernel
theorem d_X5_enterSide_12 : decode prog_7_method_3_code 12 = .ok (.getfield 15, 3) := by decide +kernel
theorem d_X5_enterSide_15 : decode prog_7_method_3_code 15 = .ok (.iload_n 1, 1) := by decide +kernel
theorem d_X5_enterSide_16 : decode prog_7_method_3_code 16 = .ok (.aload_n 2, 1) := by decide +kernel
theorem d_X5_enterSide_17 : decode prog_7_method_3_code 17 = .ok (.getfield 51, 3) := by decide +kernel
theorem d_X5_enterSide_20 : decode prog_7_method_3_code 20 = .ok (.iastore, 1) := by decide +kernel
theorem d_X5_enterSide_21 : decode prog_7_method_3_code 21 = .ok (.aload_n 0, 1) := by decide +kernel
theorem d_X5_enterSide_22 : decode prog_7_method_3_code 22 = .ok (.getfield 18, 3) := by decide +kernel
theorem d_X5_enterSide_25 : decode prog_7_method_3_code 25 = .ok (.iload_n 1, 1) := by decide +kernel
theorem d_X5_enterSide_26 : decode prog_7_method_3_code 26 = .ok (.aload_n 2, 1) := by decide +kernel
theorem d_X5_enterSide_27 : decode prog_7_method_3_code 27 = .ok (.getfield 55, 3) := by decide +kernel
theorem d_X5_enterSide_30 : decode prog_7_method_3_code 30 = .ok (.iastore, 1) := by decide +kernel
theorem d_X5_enterSide_31 : decode prog_7_method_3_code 31 = .ok (.aload_n 2, 1) := by decide +kernel
theorem d_X5_enterSide_32 : decode prog_7_method_3_code 32 = .ok (.getfield 57, 3) := by decide +kernel
theorem d_X5_enterSide_35 : decode prog_7_method_3_code 35 = .ok (.iconst 0, 1) := by decide +kernel
theorem d_X5_enterSide_36 : decode prog_7_method_3_code 36 = .ok (.aload_n 0, 1) := by decide +kernel
theorem d_X5_enterSide_37 : decode prog_7_method_3_code 37 = .ok (.getfield 26, 3) := by decide +kernel
theorem d_X5_enterSide_40 : decode prog_7_method_3_code 40 = .ok (.iload_n 1, 1) := by decide +kernel
theorem d_X5_enterSide_41 : decode prog_7_method_3_code 41 = .ok (.aaload, 1) := by decide +kernel
theorem d_X5_enterSide_42 : decode prog_7_method_3_code 42 = .ok (.iconst 0, 1) := by decide +kernel
theorem d_X5_enterSide_43 : decode prog_7_method_3_code 43 = .ok (.bipush 8, 2) := by decide +kernel
theorem d_X5_enterSide_45 : decode prog_7_method_3_code 45 = .ok (.invokestatic 45, 3) := by decide +kernel
theorem d_X5_enterSide_48 : decode prog_7_method_3_code 48 = .ok (.return_, 1) := by decide +kernel
def f_X5_enterSide (a0 : Int) (a1 : Int) (M0 : tp_M) : Option (tp_M) :=
  if tp_tg a1 = 7 then
    if a0 < 0 then
      some M0
    else
      if a0 < 8 then
        if 0 ≤ a0 ∧ a0 < 8 then
          tp_mp (tp_up M0 281 a0 (M0 a1 3)) fun M4 =>
          if 0 ≤ a0 ∧ a0 < 8 then
            tp_mp (tp_up M4 282 a0 (M4 a1 5)) fun M5 =>
            if 0 ≤ a0 ∧ a0 < 8 then
              if (0 : Int) ≤ 0 ∧ (0 : Int) ≤ 0 ∧ (0 : Int) ≤ 8 ∧ (0 + 8 : Int) ≤ 8 ∧ (0 + 8 : Int) ≤ 8 then
                tp_mp (tp_cp M5 (a1 + 1) 0 (285 + a0) 0 8) fun M7 =>
                some M7 else none else none else none else none
      else
        some M0 else none
set_option maxHeartbeats 4000000 in
set_option maxRecDepth 100000 in
theorem T_X5_enterSide (G : tp_G) (a0 : Int) (a1 : Int) (M0 : tp_M) : tp_J i_X5_enterSide (tp_rm 1) G 0 0 o_X5_enterSide tp_NC (tp_st M0) 0 0 [some (.inr (.inr 279)), some (.inl a0), some (.inr (.inr a1))] 0 [] (f_X5_enterSide a0 a1 M0) := by
  unfold f_X5_enterSide
  refine tp_chk (fun ht1 => ?_)
  refine j_iload_n rfl d_X5_enterSide_0 rfl ?_
  refine j_if_lt (tgt := 10) d_X5_enterSide_1 (by decide) (fun h2 => ?_) (fun h2 => ?_)
  · exact j_vret d_X5_enterSide_10 rfl rfl ⟨rfl, rfl⟩
  · refine j_iload_n rfl d_X5_enterSide_4 rfl ?_
    refine j_bipush ⟨by decide, by decide⟩ (by decide +kernel) d_X5_enterSide_5 ?_
    refine j_icmp_lt (tgt := 11) d_X5_enterSide_7 (by decide) (fun h3 => ?_) (fun h3 => ?_)
    · refine j_aload_n rfl d_X5_enterSide_11 rfl ?_
      refine j_getr fl_Path_15 tg_279 rv_279_1 d_X5_enterSide_12 ?_
      refine j_iload_n rfl d_X5_enterSide_15 rfl ?_
      refine j_aload_n rfl d_X5_enterSide_16 rfl ?_
      refine j_geti fl_Path_51 ht1 d_X5_enterSide_17 ?_
      refine j_iast tg_281 al_281 d_X5_enterSide_20 (fun M4 hM4 => ?_)
      refine j_aload_n rfl d_X5_enterSide_21 rfl ?_
      refine j_getr fl_Path_18 tg_279 rv_279_2 d_X5_enterSide_22 ?_
      refine j_iload_n rfl d_X5_enterSide_25 rfl ?_
      refine j_aload_n rfl d_X5_enterSide_26 rfl ?_
      refine j_geti fl_Path_55 ht1 d_X5_enterSide_27 ?_
      refine j_iast tg_282 al_282 d_X5_enterSide_30 (fun M5 hM5 => ?_)
      refine j_aload_n rfl d_X5_enterSide_31 rfl ?_
      refine j_getr fl_Path_57 ht1 (fam_7_6 _ ht1).1 d_X5_enterSide_32 ?_
      refine j_iconst ⟨by decide, by decide⟩ d_X5_enterSide_35 ?_
      refine j_aload_n rfl d_X5_enterSide_36 rfl ?_
      refine j_getr fl_Path_26 tg_279 rv_279_4 d_X5_enterSide_37 ?_
      refine j_iload_n rfl d_X5_enterSide_40 rfl ?_
      refine j_aald (v := (285 + a0)) (ty := (.array .int)) tg_284 (by decide) al_284 (by decide) rfl d_X5_enterSide_41 (fun h1 h2 => (aa_284 _ h1 h2).1) (fun hi6 => ?_)
      refine j_iconst ⟨by decide, by decide⟩ d_X5_enterSide_42 ?_
      refine j_bipush ⟨by decide, by decide⟩ (by decide +kernel) d_X5_enterSide_43 ?_
      refine j_acpi ((fam_7_6 _ ht1).2.1) ((fam_7_6 _ ht1).2.2) ((aa_284 _ hi6.1 hi6.2).2.1) ((aa_284 _ hi6.1 hi6.2).2.2) wd_697 wd_594 wd_593 wd_15 ⟨(by decide : 1 ≤ ((tp_rm 1) : Room).frames), (by decide : 60 ≤ ((tp_rm 1) : Room).locals)⟩ (Nat.le_of_ble_eq_true rfl) d_X5_enterSide_45 (fun M7 hM7 => ?_)
      exact j_vret d_X5_enterSide_48 rfl rfl ⟨rfl, rfl⟩
    · exact j_vret d_X5_enterSide_10 rfl rfl ⟨rfl, rfl⟩
set_option maxHeartbeats 4000000 in
set_option maxRecDepth 100000 in
theorem c_X5_enterSide (G : tp_G) (a0 : Int) (a1 : Int) (M0 : tp_M) (r : tp_M) (h : f_X5_enterSide a0 a1 M0 = some r) (l : Launch) : Met l y_X5_enterSide (tp_ws y_X5_enterSide i_X5_enterSide) (tp_rm 1) (tp_Pc G [.inr (.inr 279), .inl a0, .inr (.inr a1)] tp_NC (tp_st M0)) (tp_Q G (o_X5_enterSide r)) 0 0 (tp_A G) :=
  tp_met (I := i_X5_enterSide) (y := y_X5_enterSide) (by decide +kernel) (Eq.refl "TypesAtPrime$Path") (Eq.refl "enterSide") (lv := [some (.inr (.inr 279)), some (.inl a0), some (.inr (.inr a1))]) rfl (Nat.le_of_ble_eq_true rfl) (T_X5_enterSide G a0 a1 M0) h l
theorem wd_57 : (.fieldLink "TypesAtPrime$Sheet" 9 "TypesAtPrime$Sheet" "sort" "I" : Cond) ∈ lw_tbl := List.mem_append_right _ (List.mem_of_getElem? (i := 57) (by decide +kernel))
theorem fl_Sheet_9 : tp_F "TypesAtPrime$Sheet" 9 6 0 0 := ⟨_, _, _, rfl, by decide, rfl, wd_57, rfl, by decide⟩
def y_X6_isMissing : MethodName := ⟨"TypesAtPrime$Sheet", "isMissing", "()Z"⟩
abbrev i_X6_isMissing : tp_I := (prog_8_method_2_code, "TypesAtPrime$Sheet", (some .boolean), 1, "isMissing")
abbrev o_X6_isMissing (M : tp_M) : Int → tp_O := fun r => (some (.inl r), tp_NC, tp_st M)
theorem d_X6_isMissing_0 : decode prog_8_method_2_code 0 = .ok (.aload_n 0, 1) := by decide +kernel
theorem d_X6_isMissing_1 : decode prog_8_method_2_code 1 = .ok (.getfield 9, 3) := by decide +kernel
theorem d_X6_isMissing_4 : decode prog_8_method_2_code 4 = .ok (.ifCond .ge 7, 3) := by decide +kernel
theorem d_X6_isMissing_7 : decode prog_8_method_2_code 7 = .ok (.iconst 1, 1) := by decide +kernel
theorem d_X6_isMissing_8 : decode prog_8_method_2_code 8 = .ok (.goto 4, 3) := by decide +kernel
theorem d_X6_isMissing_11 : decode prog_8_method_2_code 11 = .ok (.iconst 0, 1) := by decide +kernel
theorem d_X6_isMissing_12 : decode prog_8_method_2_code 12 = .ok (.ireturn, 1) := by decide +kernel
def f_X6_isMissing (c0 : Int) (M0 : tp_M) : Option (Int) :=
  if tp_tg c0 = 6 then
    if 0 ≤ (M0 c0 0) then
      some 0
    else
      some 1 else none
set_option maxHeartbeats 4000000 in
set_option maxRecDepth 100000 in
theorem T_X6_isMissing (G : tp_G) (c0 : Int) (M0 : tp_M) : tp_J i_X6_isMissing (tp_rm 0) G 0 0 (o_X6_isMissing M0) tp_NC (tp_st M0) 0 0 [some (.inr (.inr c0))] 0 [] (f_X6_isMissing c0 M0) := by
  unfold f_X6_isMissing
  refine tp_chk (fun ht1 => ?_)
  refine j_aload_n rfl d_X6_isMissing_0 rfl ?_
  refine j_geti fl_Sheet_9 ht1 d_X6_isMissing_1 ?_
  refine j_if_ge (tgt := 11) d_X6_isMissing_4 (by decide) (fun h2 => ?_) (fun h2 => ?_)
  · refine j_iconst ⟨by decide, by decide⟩ d_X6_isMissing_11 ?_
    exact j_zret d_X6_isMissing_12 rfl (Or.inl rfl) rfl ⟨rfl, rfl⟩
  · refine j_iconst ⟨by decide, by decide⟩ d_X6_isMissing_7 ?_
    refine j_goto (tgt := 12) d_X6_isMissing_8 (by decide) ?_
    exact j_zret d_X6_isMissing_12 rfl (Or.inr rfl) rfl ⟨rfl, rfl⟩
set_option maxHeartbeats 4000000 in
set_option maxRecDepth 100000 in
theorem c_X6_isMissing (G : tp_G) (c0 : Int) (M0 : tp_M) (r : Int) (h : f_X6_isMissing c0 M0 = some r) (l : Launch) : Met l y_X6_isMissing (tp_ws y_X6_isMissing i_X6_isMissing) (tp_rm 0) (tp_Pc G [.inr (.inr c0)] tp_NC (tp_st M0)) (tp_Q G ((o_X6_isMissing M0) r)) 0 0 (tp_A G) :=
  tp_met (I := i_X6_isMissing) (y := y_X6_isMissing) (by decide +kernel) (Eq.refl "TypesAtPrime$Sheet") (Eq.refl "isMissing") (lv := [some (.inr (.inr c0))]) rfl (Nat.le_of_ble_eq_true rfl) (T_X6_isMissing G c0 M0) h l
theorem pf_6_0 (v : Int) : ∀ (C : String) (T : u_T) (N : Nat), vwCl[6]? = some (C, T, N) → (T 0).2.2.2 = false ∧ ∀ G : tp_G, ∃ ty, parseFieldDescriptor (T 0).2.2.1 = some ty ∧ narrow ty (tp_enc G (tp_zv 0 v)) = tp_enc G (tp_zv 0 v) ∧ fits ty (tp_enc G (tp_zv 0 v)) = true := by
  intro C T N h
  cases h
  exact ⟨rfl, fun G => ⟨_, tyX6_ok 0 (by decide), rfl, rfl⟩⟩
theorem pt_6 : ∃ ty0 : Nat → FieldType, ∀ (C : String) (T : u_T) (N : Nat), vwCl[6]? = some (C, T, N) → (∀ k, k < N → parseFieldDescriptor (T k).2.2.1 = some (ty0 k)) ∧ ∀ a, a < N → ∀ b, b < N → a ≠ b → (T a).2.1 ≠ (T b).2.1 := ⟨tyX6, fun C T N h => by cases h; exact ⟨tyX6_ok, nmX6⟩⟩
theorem wd_59 : (.fieldLink "TypesAtPrime$Sheet" 19 "TypesAtPrime$Sheet" "size" "I" : Cond) ∈ lw_tbl := List.mem_append_right _ (List.mem_of_getElem? (i := 59) (by decide +kernel))
theorem fl_Sheet_19 : tp_F "TypesAtPrime$Sheet" 19 6 1 0 := ⟨_, _, _, rfl, by decide, rfl, wd_59, rfl, by decide⟩
theorem pf_6_1 (v : Int) : ∀ (C : String) (T : u_T) (N : Nat), vwCl[6]? = some (C, T, N) → (T 1).2.2.2 = false ∧ ∀ G : tp_G, ∃ ty, parseFieldDescriptor (T 1).2.2.1 = some ty ∧ narrow ty (tp_enc G (tp_zv 0 v)) = tp_enc G (tp_zv 0 v) ∧ fits ty (tp_enc G (tp_zv 0 v)) = true := by
  intro C T N h
  cases h
  exact ⟨rfl, fun G => ⟨_, tyX6_ok 1 (by decide), rfl, rfl⟩⟩
theorem wd_61 : (.fieldLink "TypesAtPrime$Sheet" 15 "TypesAtPrime$Sheet" "numbers" "[I" : Cond) ∈ lw_tbl := List.mem_append_right _ (List.mem_of_getElem? (i := 61) (by decide +kernel))
theorem fl_Sheet_15 : tp_F "TypesAtPrime$Sheet" 15 6 2 2 := ⟨_, _, _, rfl, by decide, rfl, wd_61, rfl, by decide⟩
theorem fam_6_2 : ∀ c : Int, tp_tg c = 6 → tp_rv c 2 = c + 1 ∧ tp_tg (c + 1) = 21 ∧ tp_al (c + 1) = 40 := by
  intro c hc
  obtain ⟨h0, xs, -, h2⟩ := tp_tg_at (t := 6) hc
  have h : (List.range tp_NC).all (fun i => decide (tp_tg (i : Int) = 6 → tp_rv (i : Int) 2 = (i : Int) + 1 ∧ tp_tg ((i : Int) + 1) = 21 ∧ tp_al ((i : Int) + 1) = 40)) = true := by decide +kernel
  have h3 := List.all_eq_true.mp h c.toNat (List.mem_range.mpr h2)
  have h4 : ((c.toNat : Nat) : Int) = c := by omega
  rw [h4] at h3
  exact of_decide_eq_true h3 hc
theorem cs_Sheet_22 : tp_CS "TypesAtPrime$Sheet" 22 y_J7_fill_53178 i_J7_fill_53178 2 := ⟨wd_486, wd_14, by decide, by decide, by decide +kernel⟩
theorem wd_988 : (.methodLink "TypesAtPrime$Sheet" 22 ⟨"java/util/Arrays", "fill", "([II)V"⟩ : Cond) ∈ lw_tbl := List.mem_append_right _ (List.mem_of_getElem? (i := 988) (by decide +kernel))
def y_X6_become : MethodName := ⟨"TypesAtPrime$Sheet", "become", "(II)V"⟩
abbrev i_X6_become : tp_I := (prog_8_method_3_code, "TypesAtPrime$Sheet", none, 3, "become")
abbrev o_X6_become : tp_M → tp_O := fun r => (none, tp_NC, tp_st r)
theorem d_X6_become_0 : decode prog_8_method_3_code 0 = .ok (.aload_n 0, 1) := by decide +kernel
theorem d_X6_become_1 : decode prog_8_method_3_code 1 = .ok (.iload_n 1, 1) := by decide +kernel
theorem d_X6_become_2 : decode prog_8_method_3_code 2 = .ok (.putfield 9, 3) := by decide +kernel
theorem d_X6_become_5 : decode prog_8_method_3_code 5 = .ok (.aload_n 0, 1) := by decide +kernel
theorem d_X6_become_6 : decode prog_8_method_3_code 6 = .ok (.iload_n 1, 1) := by decide +kernel
theorem d_X6_become_7 : decode prog_8_method_3_code 7 = .ok (.ifCond .ge 7, 3) := by decide +kernel
theorem d_X6_become_10 : decode prog_8_method_3_code 10 = .ok (.iconst 0, 1) := by decide +kernel
theorem d_X6_become_11 : decode prog_8_method_3_code 11 = .ok (.goto 4, 3) := by decide +kernel
theorem d_X6_become_14 : decode prog_8_method_3_code 14 = .ok (.iload_n 2, 1) := by decide +kernel
theorem d_X6_become_15 : decode prog_8_method_3_code 15 = .ok (.putfield 19, 3) := by decide +kernel
theorem d_X6_become_18 : decode prog_8_method_3_code 18 = .ok (.aload_n 0, 1) := by decide +kernel
theorem d_X6_become_19 : decode prog_8_method_3_code 19 = .ok (.getfield 15, 3) := by decide +kernel
theorem d_X6_become_22 : decode prog_8_method_3_code 22 = .ok (.iconst 0, 1) := by decide +kernel
theorem d_X6_become_23 : decode prog_8_method_3_code 23 = .ok (.invokestatic 22, 3) := by decide +kernel
theorem d_X6_become_26 : decode prog_8_method_3_code 26 = .ok (.return_, 1) := by decide +kernel
def f_X6_become_15 (x0 : Int) (s0 : Int) (s1 : Int) (M0 : tp_M) : Option (tp_M) :=
  tp_mp (tp_up M0 s1 1 s0) fun M4 =>
  (f_J7_fill_53178 (x0 + 1) 0 M4).bind fun r5 =>
  some r5
set_option maxHeartbeats 4000000 in
set_option maxRecDepth 100000 in
theorem T_X6_become_15 (G : tp_G) (x0 : Int) (s0 : Int) (s1 : Int) (M0 : tp_M) (hg_x0 : tp_tg x0 = 6) (hg_s1 : tp_tg s1 = 6) : tp_J i_X6_become (tp_rm 1) G 0 0 o_X6_become tp_NC (tp_st M0) 0 0 [some (.inr (.inr x0)), none, none] 15 [.inl s0, .inr (.inr s1)] (f_X6_become_15 x0 s0 s1 M0) := by
  unfold f_X6_become_15
  refine j_put (z := 0) (v := s0) fl_Sheet_19 (by decide) hg_s1 (pf_6_1 _) pt_6 d_X6_become_15 (fun M4 hM4 => ?_)
  refine j_aload_n rfl d_X6_become_18 rfl ?_
  refine j_getr fl_Sheet_15 hg_x0 (fam_6_2 _ hg_x0).1 d_X6_become_19 ?_
  refine j_iconst ⟨by decide, by decide⟩ d_X6_become_22 ?_
  refine j_bind (fun r5 h6 => ?_)
  refine j_callS (y := y_J7_fill_53178) (I' := i_J7_fill_53178) (avs := [.inr (.inr (x0 + 1)), .inl 0]) (st := []) (c_J7_fill_53178 G (x0 + 1) 0 M4 r5 h6) cs_Sheet_22 wd_988 wd_485 rfl rfl (Nat.le_of_ble_eq_true rfl) ⟨rfl, rfl⟩ ⟨by decide, by decide⟩ ⟨by decide, by decide⟩ d_X6_become_23 ?_
  exact j_vret d_X6_become_26 rfl rfl ⟨rfl, rfl⟩
def f_X6_become (c0 : Int) (a0 : Int) (a1 : Int) (M0 : tp_M) : Option (tp_M) :=
  if tp_tg c0 = 6 then
    tp_mp (tp_up M0 c0 0 a0) fun M2 =>
    if 0 ≤ a0 then
      f_X6_become_15 c0 a1 c0 M2
    else
      f_X6_become_15 c0 0 c0 M2 else none
set_option maxHeartbeats 4000000 in
set_option maxRecDepth 100000 in
theorem T_X6_become (G : tp_G) (c0 : Int) (a0 : Int) (a1 : Int) (M0 : tp_M) : tp_J i_X6_become (tp_rm 1) G 0 0 o_X6_become tp_NC (tp_st M0) 0 0 [some (.inr (.inr c0)), some (.inl a0), some (.inl a1)] 0 [] (f_X6_become c0 a0 a1 M0) := by
  unfold f_X6_become
  refine tp_chk (fun ht1 => ?_)
  refine j_aload_n rfl d_X6_become_0 rfl ?_
  refine j_iload_n rfl d_X6_become_1 rfl ?_
  refine j_put (z := 0) (v := a0) fl_Sheet_9 (by decide) ht1 (pf_6_0 _) pt_6 d_X6_become_2 (fun M2 hM2 => ?_)
  refine j_aload_n rfl d_X6_become_5 rfl ?_
  refine j_iload_n rfl d_X6_become_6 rfl ?_
  refine j_if_ge (tgt := 14) d_X6_become_7 (by decide) (fun h3 => ?_) (fun h3 => ?_)
  · refine j_iload_n rfl d_X6_become_14 rfl ?_
    exact j_wk [true, false, false] rfl rfl (T_X6_become_15 G c0 a1 c0 M2 ht1 ht1)
  · refine j_iconst ⟨by decide, by decide⟩ d_X6_become_10 ?_
    refine j_goto (tgt := 15) d_X6_become_11 (by decide) ?_
    exact j_wk [true, false, false] rfl rfl (T_X6_become_15 G c0 0 c0 M2 ht1 ht1)
set_option maxHeartbeats 4000000 in
set_option maxRecDepth 100000 in
theorem c_X6_become (G : tp_G) (c0 : Int) (a0 : Int) (a1 : Int) (M0 : tp_M) (r : tp_M) (h : f_X6_become c0 a0 a1 M0 = some r) (l : Launch) : Met l y_X6_become (tp_ws y_X6_become i_X6_become) (tp_rm 1) (tp_Pc G [.inr (.inr c0), .inl a0, .inl a1] tp_NC (tp_st M0)) (tp_Q G (o_X6_become r)) 0 0 (tp_A G) :=
  tp_met (I := i_X6_become) (y := y_X6_become) (by decide +kernel) (Eq.refl "TypesAtPrime$Sheet") (Eq.refl "become") (lv := [some (.inr (.inr c0)), some (.inl a0), some (.inl a1)]) rfl (Nat.le_of_ble_eq_true rfl) (T_X6_become G c0 a0 a1 M0) h l
def y_X6_has : MethodName := ⟨"TypesAtPrime$Sheet", "has", "(I)Z"⟩
abbrev i_X6_has : tp_I := (prog_8_method_4_code, "TypesAtPrime$Sheet", (some .boolean), 2, "has")
abbrev o_X6_has (M : tp_M) : Int → tp_O := fun r => (some (.inl r), tp_NC, tp_st M)
theorem d_X6_has_0 : decode prog_8_method_4_code 0 = .ok (.iload_n 1, 1) := by decide +kernel
theorem d_X6_has_1 : decode prog_8_method_4_code 1 = .ok (.ifCond .lt 24, 3) := by decide +kernel
theorem d_X6_has_4 : decode prog_8_method_4_code 4 = .ok (.iload_n 1, 1) := by decide +kernel
theorem d_X6_has_5 : decode prog_8_method_4_code 5 = .ok (.aload_n 0, 1) := by decide +kernel
theorem d_X6_has_6 : decode prog_8_method_4_code 6 = .ok (.getfield 19, 3) := by decide +kernel
theorem d_X6_has_9 : decode prog_8_method_4_code 9 = .ok (.if_icmp .ge 16, 3) := by decide +kernel
theorem d_X6_has_12 : decode prog_8_method_4_code 12 = .ok (.iload_n 1, 1) := by decide +kernel
theorem d_X6_has_13 : decode prog_8_method_4_code 13 = .ok (.aload_n 0, 1) := by decide +kernel
theorem d_X6_has_14 : decode prog_8_method_4_code 14 = .ok (.getfield 15, 3) := by decide +kernel
theorem d_X6_has_17 : decode prog_8_method_4_code 17 = .ok (.arraylength, 1) := by decide +kernel
theorem d_X6_has_18 : decode prog_8_method_4_code 18 = .ok (.if_icmp .ge 7, 3) := by decide +kernel
theorem d_X6_has_21 : decode prog_8_method_4_code 21 = .ok (.iconst 1, 1) := by decide +kernel
theorem d_X6_has_22 : decode prog_8_method_4_code 22 = .ok (.goto 4, 3) := by decide +kernel
theorem d_X6_has_25 : decode prog_8_method_4_code 25 = .ok (.iconst 0, 1) := by decide +kernel
theorem d_X6_has_26 : decode prog_8_method_4_code 26 = .ok (.ireturn, 1) := by decide +kernel
def f_X6_has (c0 : Int) (a0 : Int) (M0 : tp_M) : Option (Int) :=
  if tp_tg c0 = 6 then
    if a0 < 0 then
      some 0
    else
      if (M0 c0 1) ≤ a0 then
        some 0
      else
        if 40 ≤ a0 then
          some 0
        else
          some 1 else none
set_option maxHeartbeats 4000000 in
set_option maxRecDepth 100000 in
theorem T_X6_has (G : tp_G) (c0 : Int) (a0 : Int) (M0 : tp_M) : tp_J i_X6_has (tp_rm 0) G 0 0 (o_X6_has M0) tp_NC (tp_st M0) 0 0 [some (.inr (.inr c0)), some (.inl a0)] 0 [] (f_X6_has c0 a0 M0) := by
  unfold f_X6_has
  refine tp_chk (fun ht1 => ?_)
  refine j_iload_n rfl d_X6_has_0 rfl ?_
  refine j_if_lt (tgt := 25) d_X6_has_1 (by decide) (fun h2 => ?_) (fun h2 => ?_)
  · refine j_iconst ⟨by decide, by decide⟩ d_X6_has_25 ?_
    exact j_zret d_X6_has_26 rfl (Or.inl rfl) rfl ⟨rfl, rfl⟩
  · refine j_iload_n rfl d_X6_has_4 rfl ?_
    refine j_aload_n rfl d_X6_has_5 rfl ?_
    refine j_geti fl_Sheet_19 ht1 d_X6_has_6 ?_
    refine j_icmp_ge (tgt := 25) d_X6_has_9 (by decide) (fun h3 => ?_) (fun h3 => ?_)
    · refine j_iconst ⟨by decide, by decide⟩ d_X6_has_25 ?_
      exact j_zret d_X6_has_26 rfl (Or.inl rfl) rfl ⟨rfl, rfl⟩
    · refine j_iload_n rfl d_X6_has_12 rfl ?_
      refine j_aload_n rfl d_X6_has_13 rfl ?_
      refine j_getr fl_Sheet_15 ht1 (fam_6_2 _ ht1).1 d_X6_has_14 ?_
      refine j_alen ((fam_6_2 _ ht1).2.1) (by decide) ((fam_6_2 _ ht1).2.2) ⟨by decide, by decide⟩ (ty := .int) (by decide) d_X6_has_17 ?_
      refine j_icmp_ge (tgt := 25) d_X6_has_18 (by decide) (fun h4 => ?_) (fun h4 => ?_)
      · refine j_iconst ⟨by decide, by decide⟩ d_X6_has_25 ?_
        exact j_zret d_X6_has_26 rfl (Or.inl rfl) rfl ⟨rfl, rfl⟩
      · refine j_iconst ⟨by decide, by decide⟩ d_X6_has_21 ?_
        refine j_goto (tgt := 26) d_X6_has_22 (by decide) ?_
        exact j_zret d_X6_has_26 rfl (Or.inr rfl) rfl ⟨rfl, rfl⟩
set_option maxHeartbeats 4000000 in
set_option maxRecDepth 100000 in
theorem c_X6_has (G : tp_G) (c0 : Int) (a0 : Int) (M0 : tp_M) (r : Int) (h : f_X6_has c0 a0 M0 = some r) (l : Launch) : Met l y_X6_has (tp_ws y_X6_has i_X6_has) (tp_rm 0) (tp_Pc G [.inr (.inr c0), .inl a0] tp_NC (tp_st M0)) (tp_Q G ((o_X6_has M0) r)) 0 0 (tp_A G) :=
  tp_met (I := i_X6_has) (y := y_X6_has) (by decide +kernel) (Eq.refl "TypesAtPrime$Sheet") (Eq.refl "has") (lv := [some (.inr (.inr c0)), some (.inl a0)]) rfl (Nat.le_of_ble_eq_true rfl) (T_X6_has G c0 a0 M0) h l
def y_X6_hasRun : MethodName := ⟨"TypesAtPrime$Sheet", "hasRun", "(II)Z"⟩
abbrev i_X6_hasRun : tp_I := (prog_8_method_5_code, "TypesAtPrime$Sheet", (some .boolean), 3, "hasRun")
abbrev o_X6_hasRun (M : tp_M) : Int → tp_O := fun r => (some (.inl r), tp_NC, tp_st M)
theorem d_X6_hasRun_0 : decode prog_8_method_5_code 0 = .ok (.iload_n 1, 1) := by decide +kernel
theorem d_X6_hasRun_1 : decode prog_8_method_5_code 1 = .ok (.ifCond .lt 41, 3) := by decide +kernel
theorem d_X6_hasRun_4 : decode prog_8_method_5_code 4 = .ok (.iload_n 2, 1) := by decide +kernel
theorem d_X6_hasRun_5 : decode prog_8_method_5_code 5 = .ok (.ifCond .lt 37, 3) := by decide +kernel
theorem d_X6_hasRun_8 : decode prog_8_method_5_code 8 = .ok (.iload_n 2, 1) := by decide +kernel
theorem d_X6_hasRun_9 : decode prog_8_method_5_code 9 = .ok (.aload_n 0, 1) := by decide +kernel
theorem d_X6_hasRun_10 : decode prog_8_method_5_code 10 = .ok (.getfield 19, 3) := by decide +kernel
theorem d_X6_hasRun_13 : decode prog_8_method_5_code 13 = .ok (.if_icmp .gt 29, 3) := by decide +kernel
theorem d_X6_hasRun_16 : decode prog_8_method_5_code 16 = .ok (.aload_n 0, 1) := by decide +kernel
theorem d_X6_hasRun_17 : decode prog_8_method_5_code 17 = .ok (.getfield 19, 3) := by decide +kernel
theorem d_X6_hasRun_20 : decode prog_8_method_5_code 20 = .ok (.aload_n 0, 1) := by decide +kernel
theorem d_X6_hasRun_21 : decode prog_8_method_5_code 21 = .ok (.getfield 15, 3) := by decide +kernel
theorem d_X6_hasRun_24 : decode prog_8_method_5_code 24 = .ok (.arraylength, 1) := by decide +kernel
theorem d_X6_hasRun_25 : decode prog_8_method_5_code 25 = .ok (.if_icmp .gt 17, 3) := by decide +kernel
theorem d_X6_hasRun_28 : decode prog_8_method_5_code 28 = .ok (.iload_n 1, 1) := by decide +kernel
theorem d_X6_hasRun_29 : decode prog_8_method_5_code 29 = .ok (.aload_n 0, 1) := by decide +kernel
theorem d_X6_hasRun_30 : decode prog_8_method_5_code 30 = .ok (.getfield 19, 3) := by decide +kernel
theorem d_X6_hasRun_33 : decode prog_8_method_5_code 33 = .ok (.iload_n 2, 1) := by decide +kernel
theorem d_X6_hasRun_34 : decode prog_8_method_5_code 34 = .ok (.isub, 1) := by decide +kernel
theorem d_X6_hasRun_35 : decode prog_8_method_5_code 35 = .ok (.if_icmp .gt 7, 3) := by decide +kernel
theorem d_X6_hasRun_38 : decode prog_8_method_5_code 38 = .ok (.iconst 1, 1) := by decide +kernel
theorem d_X6_hasRun_39 : decode prog_8_method_5_code 39 = .ok (.goto 4, 3) := by decide +kernel
theorem d_X6_hasRun_42 : decode prog_8_method_5_code 42 = .ok (.iconst 0, 1) := by decide +kernel
theorem d_X6_hasRun_43 : decode prog_8_method_5_code 43 = .ok (.ireturn, 1) := by decide +kernel
def f_X6_hasRun (c0 : Int) (a0 : Int) (a1 : Int) (M0 : tp_M) : Option (Int) :=
  if tp_tg c0 = 6 then
    if a0 < 0 then
      some 0
    else
      if a1 < 0 then
        some 0
      else
        if (M0 c0 1) < a1 then
          some 0
        else
          if 40 < (M0 c0 1) then
            some 0
          else
            if (tp_w ((M0 c0 1) - a1)) < a0 then
              some 0
            else
              some 1 else none
set_option maxHeartbeats 4000000 in
set_option maxRecDepth 100000 in
theorem T_X6_hasRun (G : tp_G) (c0 : Int) (a0 : Int) (a1 : Int) (M0 : tp_M) : tp_J i_X6_hasRun (tp_rm 0) G 0 0 (o_X6_hasRun M0) tp_NC (tp_st M0) 0 0 [some (.inr (.inr c0)), some (.inl a0), some (.inl a1)] 0 [] (f_X6_hasRun c0 a0 a1 M0) := by
  unfold f_X6_hasRun
  refine tp_chk (fun ht1 => ?_)
  refine j_iload_n rfl d_X6_hasRun_0 rfl ?_
  refine j_if_lt (tgt := 42) d_X6_hasRun_1 (by decide) (fun h2 => ?_) (fun h2 => ?_)
  · refine j_iconst ⟨by decide, by decide⟩ d_X6_hasRun_42 ?_
    exact j_zret d_X6_hasRun_43 rfl (Or.inl rfl) rfl ⟨rfl, rfl⟩
  · refine j_iload_n rfl d_X6_hasRun_4 rfl ?_
    refine j_if_lt (tgt := 42) d_X6_hasRun_5 (by decide) (fun h3 => ?_) (fun h3 => ?_)
    · refine j_iconst ⟨by decide, by decide⟩ d_X6_hasRun_42 ?_
      exact j_zret d_X6_hasRun_43 rfl (Or.inl rfl) rfl ⟨rfl, rfl⟩
    · refine j_iload_n rfl d_X6_hasRun_8 rfl ?_
      refine j_aload_n rfl d_X6_hasRun_9 rfl ?_
      refine j_geti fl_Sheet_19 ht1 d_X6_hasRun_10 ?_
      refine j_icmp_gt (tgt := 42) d_X6_hasRun_13 (by decide) (fun h4 => ?_) (fun h4 => ?_)
      · refine j_iconst ⟨by decide, by decide⟩ d_X6_hasRun_42 ?_
        exact j_zret d_X6_hasRun_43 rfl (Or.inl rfl) rfl ⟨rfl, rfl⟩
      · refine j_aload_n rfl d_X6_hasRun_16 rfl ?_
        refine j_geti fl_Sheet_19 ht1 d_X6_hasRun_17 ?_
        refine j_aload_n rfl d_X6_hasRun_20 rfl ?_
        refine j_getr fl_Sheet_15 ht1 (fam_6_2 _ ht1).1 d_X6_hasRun_21 ?_
        refine j_alen ((fam_6_2 _ ht1).2.1) (by decide) ((fam_6_2 _ ht1).2.2) ⟨by decide, by decide⟩ (ty := .int) (by decide) d_X6_hasRun_24 ?_
        refine j_icmp_gt (tgt := 42) d_X6_hasRun_25 (by decide) (fun h5 => ?_) (fun h5 => ?_)
        · refine j_iconst ⟨by decide, by decide⟩ d_X6_hasRun_42 ?_
          exact j_zret d_X6_hasRun_43 rfl (Or.inl rfl) rfl ⟨rfl, rfl⟩
        · refine j_iload_n rfl d_X6_hasRun_28 rfl ?_
          refine j_aload_n rfl d_X6_hasRun_29 rfl ?_
          refine j_geti fl_Sheet_19 ht1 d_X6_hasRun_30 ?_
          refine j_iload_n rfl d_X6_hasRun_33 rfl ?_
          refine j_isub d_X6_hasRun_34 ?_
          refine j_icmp_gt (tgt := 42) d_X6_hasRun_35 (by decide) (fun h6 => ?_) (fun h6 => ?_)
          · refine j_iconst ⟨by decide, by decide⟩ d_X6_hasRun_42 ?_
            exact j_zret d_X6_hasRun_43 rfl (Or.inl rfl) rfl ⟨rfl, rfl⟩
          · refine j_iconst ⟨by decide, by decide⟩ d_X6_hasRun_38 ?_
            refine j_goto (tgt := 43) d_X6_hasRun_39 (by decide) ?_
            exact j_zret d_X6_hasRun_43 rfl (Or.inr rfl) rfl ⟨rfl, rfl⟩
set_option maxHeartbeats 4000000 in
set_option maxRecDepth 100000 in
theorem c_X6_hasRun (G : tp_G) (c0 : Int) (a0 : Int) (a1 : Int) (M0 : tp_M) (r : Int) (h : f_X6_hasRun c0 a0 a1 M0 = some r) (l : Launch) : Met l y_X6_hasRun (tp_ws y_X6_hasRun i_X6_hasRun) (tp_rm 0) (tp_Pc G [.inr (.inr c0), .inl a0, .inl a1] tp_NC (tp_st M0)) (tp_Q G ((o_X6_hasRun M0) r)) 0 0 (tp_A G) :=
  tp_met (I := i_X6_hasRun) (y := y_X6_hasRun) (by decide +kernel) (Eq.refl "TypesAtPrime$Sheet") (Eq.refl "hasRun") (lv := [some (.inr (.inr c0)), some (.inl a0), some (.inl a1)]) rfl (Nat.le_of_ble_eq_true rfl) (T_X6_hasRun G c0 a0 a1 M0) h l
theorem wd_968 : (.code ⟨"TypesAtPrime$Sheet", "has", "(I)Z"⟩ prog_8_method_4_code 2 (some .boolean) : Cond) ∈ lw_tbl := List.mem_append_right _ (List.mem_of_getElem? (i := 968) (by decide +kernel))
theorem wd_3 : (.initialized "TypesAtPrime$Sheet" : Cond) ∈ lw_tbl := List.mem_append_right _ (List.mem_of_getElem? (i := 3) (by decide +kernel))
theorem cs_Sheet_28 : tp_CS "TypesAtPrime$Sheet" 28 y_X6_has i_X6_has 1 := ⟨wd_968, wd_3, by decide, by decide, by decide +kernel⟩
theorem wd_979 : (.methodLink "TypesAtPrime$Sheet" 28 ⟨"TypesAtPrime$Sheet", "has", "(I)Z"⟩ : Cond) ∈ lw_tbl := List.mem_append_right _ (List.mem_of_getElem? (i := 979) (by decide +kernel))
theorem wd_966 : (.instanceMethod ⟨"TypesAtPrime$Sheet", "has", "(I)Z"⟩ : Cond) ∈ lw_tbl := List.mem_append_right _ (List.mem_of_getElem? (i := 966) (by decide +kernel))
theorem wd_967 : (.selects "TypesAtPrime$Sheet" ⟨"TypesAtPrime$Sheet", "has", "(I)Z"⟩ ⟨"TypesAtPrime$Sheet", "has", "(I)Z"⟩ : Cond) ∈ lw_tbl := List.mem_append_right _ (List.mem_of_getElem? (i := 967) (by decide +kernel))
def y_X6_put : MethodName := ⟨"TypesAtPrime$Sheet", "put", "(II)V"⟩
abbrev i_X6_put : tp_I := (prog_8_method_6_code, "TypesAtPrime$Sheet", none, 3, "put")
abbrev o_X6_put : tp_M → tp_O := fun r => (none, tp_NC, tp_st r)
theorem d_X6_put_0 : decode prog_8_method_6_code 0 = .ok (.aload_n 0, 1) := by decide +kernel
theorem d_X6_put_1 : decode prog_8_method_6_code 1 = .ok (.iload_n 1, 1) := by decide +kernel
theorem d_X6_put_2 : decode prog_8_method_6_code 2 = .ok (.invokevirtual 28, 3) := by decide +kernel
theorem d_X6_put_5 : decode prog_8_method_6_code 5 = .ok (.ifCond .eq 22, 3) := by decide +kernel
theorem d_X6_put_8 : decode prog_8_method_6_code 8 = .ok (.aload_n 0, 1) := by decide +kernel
theorem d_X6_put_9 : decode prog_8_method_6_code 9 = .ok (.getfield 15, 3) := by decide +kernel
theorem d_X6_put_12 : decode prog_8_method_6_code 12 = .ok (.iload_n 1, 1) := by decide +kernel
theorem d_X6_put_13 : decode prog_8_method_6_code 13 = .ok (.aload_n 0, 1) := by decide +kernel
theorem d_X6_put_14 : decode prog_8_method_6_code 14 = .ok (.getfield 9, 3) := by decide +kernel
theorem d_X6_put_17 : decode prog_8_method_6_code 17 = .ok (.ifCond .ne 8, 3) := by decide +kernel
theorem d_X6_put_20 : decode prog_8_method_6_code 20 = .ok (.iload_n 2, 1) := by decide +kernel
theorem d_X6_put_21 : decode prog_8_method_6_code 21 = .ok (.i2b, 1) := by decide +kernel
theorem d_X6_put_22 : decode prog_8_method_6_code 22 = .ok (.goto 4, 3) := by decide +kernel
theorem d_X6_put_25 : decode prog_8_method_6_code 25 = .ok (.iload_n 2, 1) := by decide +kernel
theorem d_X6_put_26 : decode prog_8_method_6_code 26 = .ok (.iastore, 1) := by decide +kernel
theorem d_X6_put_27 : decode prog_8_method_6_code 27 = .ok (.return_, 1) := by decide +kernel
def f_X6_put (c0 : Int) (a0 : Int) (a1 : Int) (M0 : tp_M) : Option (tp_M) :=
  if tp_tg c0 = 6 then
    (f_X6_has c0 a0 M0).bind fun r2 =>
    if r2 = 0 then
      some M0
    else
      if ¬ (M0 c0 0) = 0 then
        if 0 ≤ a0 ∧ a0 < 40 then
          tp_mp (tp_up M0 (c0 + 1) a0 a1) fun M6 =>
          some M6 else none
      else
        if 0 ≤ a0 ∧ a0 < 40 then
          tp_mp (tp_up M0 (c0 + 1) a0 (tp_b a1)) fun M7 =>
          some M7 else none else none
set_option maxHeartbeats 4000000 in
set_option maxRecDepth 100000 in
theorem T_X6_put (G : tp_G) (c0 : Int) (a0 : Int) (a1 : Int) (M0 : tp_M) : tp_J i_X6_put (tp_rm 1) G 0 0 o_X6_put tp_NC (tp_st M0) 0 0 [some (.inr (.inr c0)), some (.inl a0), some (.inl a1)] 0 [] (f_X6_put c0 a0 a1 M0) := by
  unfold f_X6_put
  refine tp_chk (fun ht1 => ?_)
  refine j_aload_n rfl d_X6_put_0 rfl ?_
  refine j_iload_n rfl d_X6_put_1 rfl ?_
  refine j_bind (fun r2 h3 => ?_)
  refine j_callV (y := y_X6_has) (I' := i_X6_has) (avs := [.inl a0]) (c := c0) (st := []) (c_X6_has G c0 a0 M0 r2 h3) cs_Sheet_28 wd_979 wd_966 wd_967 ht1 rfl rfl rfl (Nat.le_of_ble_eq_true rfl) ⟨rfl, rfl⟩ ⟨by decide, by decide⟩ ⟨by decide, by decide⟩ d_X6_put_2 ?_
  refine j_if_eq (tgt := 27) d_X6_put_5 (by decide) (fun h4 => ?_) (fun h4 => ?_)
  · exact j_vret d_X6_put_27 rfl rfl ⟨rfl, rfl⟩
  · refine j_aload_n rfl d_X6_put_8 rfl ?_
    refine j_getr fl_Sheet_15 ht1 (fam_6_2 _ ht1).1 d_X6_put_9 ?_
    refine j_iload_n rfl d_X6_put_12 rfl ?_
    refine j_aload_n rfl d_X6_put_13 rfl ?_
    refine j_geti fl_Sheet_9 ht1 d_X6_put_14 ?_
    refine j_if_ne (tgt := 25) d_X6_put_17 (by decide) (fun h5 => ?_) (fun h5 => ?_)
    · refine j_iload_n rfl d_X6_put_25 rfl ?_
      refine j_iast ((fam_6_2 _ ht1).2.1) ((fam_6_2 _ ht1).2.2) d_X6_put_26 (fun M6 hM6 => ?_)
      exact j_vret d_X6_put_27 rfl rfl ⟨rfl, rfl⟩
    · refine j_iload_n rfl d_X6_put_20 rfl ?_
      refine j_i2b d_X6_put_21 ?_
      refine j_goto (tgt := 26) d_X6_put_22 (by decide) ?_
      refine j_iast ((fam_6_2 _ ht1).2.1) ((fam_6_2 _ ht1).2.2) d_X6_put_26 (fun M7 hM7 => ?_)
      exact j_vret d_X6_put_27 rfl rfl ⟨rfl, rfl⟩
set_option maxHeartbeats 4000000 in
set_option maxRecDepth 100000 in
theorem c_X6_put (G : tp_G) (c0 : Int) (a0 : Int) (a1 : Int) (M0 : tp_M) (r : tp_M) (h : f_X6_put c0 a0 a1 M0 = some r) (l : Launch) : Met l y_X6_put (tp_ws y_X6_put i_X6_put) (tp_rm 1) (tp_Pc G [.inr (.inr c0), .inl a0, .inl a1] tp_NC (tp_st M0)) (tp_Q G (o_X6_put r)) 0 0 (tp_A G) :=
  tp_met (I := i_X6_put) (y := y_X6_put) (by decide +kernel) (Eq.refl "TypesAtPrime$Sheet") (Eq.refl "put") (lv := [some (.inr (.inr c0)), some (.inl a0), some (.inl a1)]) rfl (Nat.le_of_ble_eq_true rfl) (T_X6_put G c0 a0 a1 M0) h l
def y_X6_firstPoint : MethodName := ⟨"TypesAtPrime$Sheet", "firstPoint", "()I"⟩
abbrev i_X6_firstPoint : tp_I := (prog_8_method_7_code, "TypesAtPrime$Sheet", (some .int), 2, "firstPoint")
abbrev o_X6_firstPoint (M : tp_M) : Int → tp_O := fun r => (some (.inl r), tp_NC, tp_st M)
theorem d_X6_firstPoint_0 : decode prog_8_method_7_code 0 = .ok (.iconst 0, 1) := by decide +kernel
theorem d_X6_firstPoint_1 : decode prog_8_method_7_code 1 = .ok (.istore_n 1, 1) := by decide +kernel
theorem d_X6_firstPoint_2 : decode prog_8_method_7_code 2 = .ok (.iload_n 1, 1) := by decide +kernel
theorem d_X6_firstPoint_3 : decode prog_8_method_7_code 3 = .ok (.aload_n 0, 1) := by decide +kernel
theorem d_X6_firstPoint_4 : decode prog_8_method_7_code 4 = .ok (.getfield 19, 3) := by decide +kernel
theorem d_X6_firstPoint_7 : decode prog_8_method_7_code 7 = .ok (.if_icmp .ge 29, 3) := by decide +kernel
theorem d_X6_firstPoint_10 : decode prog_8_method_7_code 10 = .ok (.iload_n 1, 1) := by decide +kernel
theorem d_X6_firstPoint_11 : decode prog_8_method_7_code 11 = .ok (.aload_n 0, 1) := by decide +kernel
theorem d_X6_firstPoint_12 : decode prog_8_method_7_code 12 = .ok (.getfield 15, 3) := by decide +kernel
theorem d_X6_firstPoint_15 : decode prog_8_method_7_code 15 = .ok (.arraylength, 1) := by decide +kernel
theorem d_X6_firstPoint_16 : decode prog_8_method_7_code 16 = .ok (.if_icmp .ge 20, 3) := by decide +kernel
theorem d_X6_firstPoint_19 : decode prog_8_method_7_code 19 = .ok (.aload_n 0, 1) := by decide +kernel
theorem d_X6_firstPoint_20 : decode prog_8_method_7_code 20 = .ok (.getfield 15, 3) := by decide +kernel
theorem d_X6_firstPoint_23 : decode prog_8_method_7_code 23 = .ok (.iload_n 1, 1) := by decide +kernel
theorem d_X6_firstPoint_24 : decode prog_8_method_7_code 24 = .ok (.iaload, 1) := by decide +kernel
theorem d_X6_firstPoint_25 : decode prog_8_method_7_code 25 = .ok (.ifCond .lt 5, 3) := by decide +kernel
theorem d_X6_firstPoint_28 : decode prog_8_method_7_code 28 = .ok (.iload_n 1, 1) := by decide +kernel
theorem d_X6_firstPoint_29 : decode prog_8_method_7_code 29 = .ok (.ireturn, 1) := by decide +kernel
theorem d_X6_firstPoint_30 : decode prog_8_method_7_code 30 = .ok (.iinc 1 1, 3) := by decide +kernel
theorem d_X6_firstPoint_33 : decode prog_8_method_7_code 33 = .ok (.goto (-31), 3) := by decide +kernel
theorem d_X6_firstPoint_36 : decode prog_8_method_7_code 36 = .ok (.iconst (-1), 1) := by decide +kernel
theorem d_X6_firstPoint_37 : decode prog_8_method_7_code 37 = .ok (.ireturn, 1) := by decide +kernel
def f_X6_firstPoint_2B (x0 : Int) (M0 : tp_M) (rec_2 : Int → Option (Int)) (x1 : Int) : Option (Int) :=
  if (M0 x0 1) ≤ x1 then
    some (-1)
  else
    if 40 ≤ x1 then
      some (-1)
    else
      if 0 ≤ x1 ∧ x1 < 40 then
        if (M0 (x0 + 1) x1) < 0 then
          tp_lt (tp_w (x1 + 1)) fun y5 =>
          rec_2 y5
        else
          some x1 else none
set_option maxHeartbeats 4000000 in
set_option maxRecDepth 100000 in
theorem T_X6_firstPoint_2B (G : tp_G) (x0 : Int) (M0 : tp_M) (hg_x0 : tp_tg x0 = 6) (rec_2 : Int → Option (Int)) (hrec_2 : ∀ (x1' : Int), tp_J i_X6_firstPoint (tp_rm 0) G 0 0 (o_X6_firstPoint M0) tp_NC (tp_st M0) 0 0 [some (.inr (.inr x0)), some (.inl (x1'))] 2 [] (rec_2 x1')) (x1 : Int) : tp_J i_X6_firstPoint (tp_rm 0) G 0 0 (o_X6_firstPoint M0) tp_NC (tp_st M0) 0 0 [some (.inr (.inr x0)), some (.inl x1)] 2 [] (f_X6_firstPoint_2B x0 M0 rec_2 x1) := by
  unfold f_X6_firstPoint_2B
  refine j_iload_n rfl d_X6_firstPoint_2 rfl ?_
  refine j_aload_n rfl d_X6_firstPoint_3 rfl ?_
  refine j_geti fl_Sheet_19 hg_x0 d_X6_firstPoint_4 ?_
  refine j_icmp_ge (tgt := 36) d_X6_firstPoint_7 (by decide) (fun h2 => ?_) (fun h2 => ?_)
  · refine j_iconst ⟨by decide, by decide⟩ d_X6_firstPoint_36 ?_
    exact j_iret d_X6_firstPoint_37 rfl rfl ⟨rfl, rfl⟩
  · refine j_iload_n rfl d_X6_firstPoint_10 rfl ?_
    refine j_aload_n rfl d_X6_firstPoint_11 rfl ?_
    refine j_getr fl_Sheet_15 hg_x0 (fam_6_2 _ hg_x0).1 d_X6_firstPoint_12 ?_
    refine j_alen ((fam_6_2 _ hg_x0).2.1) (by decide) ((fam_6_2 _ hg_x0).2.2) ⟨by decide, by decide⟩ (ty := .int) (by decide) d_X6_firstPoint_15 ?_
    refine j_icmp_ge (tgt := 36) d_X6_firstPoint_16 (by decide) (fun h3 => ?_) (fun h3 => ?_)
    · refine j_iconst ⟨by decide, by decide⟩ d_X6_firstPoint_36 ?_
      exact j_iret d_X6_firstPoint_37 rfl rfl ⟨rfl, rfl⟩
    · refine j_aload_n rfl d_X6_firstPoint_19 rfl ?_
      refine j_getr fl_Sheet_15 hg_x0 (fam_6_2 _ hg_x0).1 d_X6_firstPoint_20 ?_
      refine j_iload_n rfl d_X6_firstPoint_23 rfl ?_
      refine j_iald ((fam_6_2 _ hg_x0).2.1) ((fam_6_2 _ hg_x0).2.2) d_X6_firstPoint_24 ?_
      refine j_if_lt (tgt := 30) d_X6_firstPoint_25 (by decide) (fun h4 => ?_) (fun h4 => ?_)
      · refine j_iincN (lv' := fun y5 => [some (.inr (.inr x0)), some (.inl y5)]) d_X6_firstPoint_30 rfl (Nat.le_of_ble_eq_true rfl) (fun _ => rfl) (fun y5 hy5 => ?_)
        refine j_goto (tgt := 2) d_X6_firstPoint_33 (by decide) ?_
        exact j_wk [true, true] rfl rfl (hrec_2 y5)
      · refine j_iload_n rfl d_X6_firstPoint_28 rfl ?_
        exact j_iret d_X6_firstPoint_29 rfl rfl ⟨rfl, rfl⟩
def f_X6_firstPoint_2 (x0 : Int) (x1 : Int) (M0 : tp_M) : Option (Int) := tp_lp (σ := Int) (fun rec_ u => f_X6_firstPoint_2B x0 M0 (fun x1' => rec_ x1') u) tp_N x1
set_option maxHeartbeats 4000000 in
set_option maxRecDepth 100000 in
theorem T_X6_firstPoint_2 (G : tp_G) (x0 : Int) (x1 : Int) (M0 : tp_M) (hg_x0 : tp_tg x0 = 6) : tp_J i_X6_firstPoint (tp_rm 0) G 0 0 (o_X6_firstPoint M0) tp_NC (tp_st M0) 0 0 [some (.inr (.inr x0)), some (.inl x1)] 2 [] (f_X6_firstPoint_2 x0 x1 M0) := by
  unfold f_X6_firstPoint_2
  exact j_lp (σ := Int) (n' := fun _ => tp_NC) (g' := fun u => tp_st M0) (k' := fun _ => 0) (q' := fun _ => 0) (lv' := fun u => [some (.inr (.inr x0)), some (.inl u)]) (fun rec_ hrec u => T_X6_firstPoint_2B G x0 M0 hg_x0 (fun x1' => rec_ x1') (fun x1' => hrec x1') u) tp_N x1
def f_X6_firstPoint (c0 : Int) (M0 : tp_M) : Option (Int) :=
  if tp_tg c0 = 6 then
    f_X6_firstPoint_2 c0 0 M0 else none
set_option maxHeartbeats 4000000 in
set_option maxRecDepth 100000 in
theorem T_X6_firstPoint (G : tp_G) (c0 : Int) (M0 : tp_M) : tp_J i_X6_firstPoint (tp_rm 0) G 0 0 (o_X6_firstPoint M0) tp_NC (tp_st M0) 0 0 [some (.inr (.inr c0)), none] 0 [] (f_X6_firstPoint c0 M0) := by
  unfold f_X6_firstPoint
  refine tp_chk (fun ht1 => ?_)
  refine j_iconst ⟨by decide, by decide⟩ d_X6_firstPoint_0 ?_
  refine j_istore_n (lv' := [some (.inr (.inr c0)), some (.inl 0)]) rfl d_X6_firstPoint_1 (Nat.le_of_ble_eq_true rfl) rfl ?_
  exact j_wk [true, true] rfl rfl (T_X6_firstPoint_2 G c0 0 M0 ht1)
set_option maxHeartbeats 4000000 in
set_option maxRecDepth 100000 in
theorem c_X6_firstPoint (G : tp_G) (c0 : Int) (M0 : tp_M) (r : Int) (h : f_X6_firstPoint c0 M0 = some r) (l : Launch) : Met l y_X6_firstPoint (tp_ws y_X6_firstPoint i_X6_firstPoint) (tp_rm 0) (tp_Pc G [.inr (.inr c0)] tp_NC (tp_st M0)) (tp_Q G ((o_X6_firstPoint M0) r)) 0 0 (tp_A G) :=
  tp_met (I := i_X6_firstPoint) (y := y_X6_firstPoint) (by decide +kernel) (Eq.refl "TypesAtPrime$Sheet") (Eq.refl "firstPoint") (lv := [some (.inr (.inr c0)), none]) rfl (Nat.le_of_ble_eq_true rfl) (T_X6_firstPoint G c0 M0) h l
theorem wd_955 : (.methodLink "TypesAtPrime$Sheet" 32 ⟨"java/lang/Math", "min", "(II)I"⟩ : Cond) ∈ lw_tbl := List.mem_append_right _ (List.mem_of_getElem? (i := 955) (by decide +kernel))
def y_X6_lastPoint : MethodName := ⟨"TypesAtPrime$Sheet", "lastPoint", "()I"⟩
abbrev i_X6_lastPoint : tp_I := (prog_8_method_8_code, "TypesAtPrime$Sheet", (some .int), 2, "lastPoint")
abbrev o_X6_lastPoint (M : tp_M) : Int → tp_O := fun r => (some (.inl r), tp_NC, tp_st M)
theorem d_X6_lastPoint_0 : decode prog_8_method_8_code 0 = .ok (.aload_n 0, 1) := by decide +kernel
theorem d_X6_lastPoint_1 : decode prog_8_method_8_code 1 = .ok (.getfield 19, 3) := by decide +kernel
theorem d_X6_lastPoint_4 : decode prog_8_method_8_code 4 = .ok (.aload_n 0, 1) := by decide +kernel
theorem d_X6_lastPoint_5 : decode prog_8_method_8_code 5 = .ok (.getfield 15, 3) := by decide +kernel
theorem d_X6_lastPoint_8 : decode prog_8_method_8_code 8 = .ok (.arraylength, 1) := by decide +kernel
theorem d_X6_lastPoint_9 : decode prog_8_method_8_code 9 = .ok (.invokestatic 32, 3) := by decide +kernel
theorem d_X6_lastPoint_12 : decode prog_8_method_8_code 12 = .ok (.iconst 1, 1) := by decide +kernel
theorem d_X6_lastPoint_13 : decode prog_8_method_8_code 13 = .ok (.isub, 1) := by decide +kernel
theorem d_X6_lastPoint_14 : decode prog_8_method_8_code 14 = .ok (.istore_n 1, 1) := by decide +kernel
theorem d_X6_lastPoint_15 : decode prog_8_method_8_code 15 = .ok (.iload_n 1, 1) := by decide +kernel
theorem d_X6_lastPoint_16 : decode prog_8_method_8_code 16 = .ok (.ifCond .lt 20, 3) := by decide +kernel
theorem d_X6_lastPoint_19 : decode prog_8_method_8_code 19 = .ok (.aload_n 0, 1) := by decide +kernel
theorem d_X6_lastPoint_20 : decode prog_8_method_8_code 20 = .ok (.getfield 15, 3) := by decide +kernel
theorem d_X6_lastPoint_23 : decode prog_8_method_8_code 23 = .ok (.iload_n 1, 1) := by decide +kernel
theorem d_X6_lastPoint_24 : decode prog_8_method_8_code 24 = .ok (.iaload, 1) := by decide +kernel
theorem d_X6_lastPoint_25 : decode prog_8_method_8_code 25 = .ok (.ifCond .lt 5, 3) := by decide +kernel
theorem d_X6_lastPoint_28 : decode prog_8_method_8_code 28 = .ok (.iload_n 1, 1) := by decide +kernel
theorem d_X6_lastPoint_29 : decode prog_8_method_8_code 29 = .ok (.ireturn, 1) := by decide +kernel
theorem d_X6_lastPoint_30 : decode prog_8_method_8_code 30 = .ok (.iinc 1 (-1), 3) := by decide +kernel
theorem d_X6_lastPoint_33 : decode prog_8_method_8_code 33 = .ok (.goto (-18), 3) := by decide +kernel
theorem d_X6_lastPoint_36 : decode prog_8_method_8_code 36 = .ok (.iconst (-1), 1) := by decide +kernel
theorem d_X6_lastPoint_37 : decode prog_8_method_8_code 37 = .ok (.ireturn, 1) := by decide +kernel
def f_X6_lastPoint_15B (x0 : Int) (M0 : tp_M) (rec_15 : Int → Option (Int)) (x1 : Int) : Option (Int) :=
  if x1 < 0 then
    some (-1)
  else
    if 0 ≤ x1 ∧ x1 < 40 then
      if (M0 (x0 + 1) x1) < 0 then
        tp_lt (tp_w (x1 + (-1))) fun y5 =>
        rec_15 y5
      else
        some x1 else none
set_option maxHeartbeats 4000000 in
set_option maxRecDepth 100000 in
theorem T_X6_lastPoint_15B (G : tp_G) (x0 : Int) (M0 : tp_M) (hg_x0 : tp_tg x0 = 6) (rec_15 : Int → Option (Int)) (hrec_15 : ∀ (x1' : Int), tp_J i_X6_lastPoint (tp_rm 1) G 0 0 (o_X6_lastPoint M0) tp_NC (tp_st M0) 0 0 [some (.inr (.inr x0)), some (.inl (x1'))] 15 [] (rec_15 x1')) (x1 : Int) : tp_J i_X6_lastPoint (tp_rm 1) G 0 0 (o_X6_lastPoint M0) tp_NC (tp_st M0) 0 0 [some (.inr (.inr x0)), some (.inl x1)] 15 [] (f_X6_lastPoint_15B x0 M0 rec_15 x1) := by
  unfold f_X6_lastPoint_15B
  refine j_iload_n rfl d_X6_lastPoint_15 rfl ?_
  refine j_if_lt (tgt := 36) d_X6_lastPoint_16 (by decide) (fun h3 => ?_) (fun h3 => ?_)
  · refine j_iconst ⟨by decide, by decide⟩ d_X6_lastPoint_36 ?_
    exact j_iret d_X6_lastPoint_37 rfl rfl ⟨rfl, rfl⟩
  · refine j_aload_n rfl d_X6_lastPoint_19 rfl ?_
    refine j_getr fl_Sheet_15 hg_x0 (fam_6_2 _ hg_x0).1 d_X6_lastPoint_20 ?_
    refine j_iload_n rfl d_X6_lastPoint_23 rfl ?_
    refine j_iald ((fam_6_2 _ hg_x0).2.1) ((fam_6_2 _ hg_x0).2.2) d_X6_lastPoint_24 ?_
    refine j_if_lt (tgt := 30) d_X6_lastPoint_25 (by decide) (fun h4 => ?_) (fun h4 => ?_)
    · refine j_iincN (lv' := fun y5 => [some (.inr (.inr x0)), some (.inl y5)]) d_X6_lastPoint_30 rfl (Nat.le_of_ble_eq_true rfl) (fun _ => rfl) (fun y5 hy5 => ?_)
      refine j_goto (tgt := 15) d_X6_lastPoint_33 (by decide) ?_
      exact j_wk [true, true] rfl rfl (hrec_15 y5)
    · refine j_iload_n rfl d_X6_lastPoint_28 rfl ?_
      exact j_iret d_X6_lastPoint_29 rfl rfl ⟨rfl, rfl⟩
def f_X6_lastPoint_15 (x0 : Int) (x1 : Int) (M0 : tp_M) : Option (Int) := tp_lp (σ := Int) (fun rec_ u => f_X6_lastPoint_15B x0 M0 (fun x1' => rec_ x1') u) tp_N x1
set_option maxHeartbeats 4000000 in
set_option maxRecDepth 100000 in
theorem T_X6_lastPoint_15 (G : tp_G) (x0 : Int) (x1 : Int) (M0 : tp_M) (hg_x0 : tp_tg x0 = 6) : tp_J i_X6_lastPoint (tp_rm 1) G 0 0 (o_X6_lastPoint M0) tp_NC (tp_st M0) 0 0 [some (.inr (.inr x0)), some (.inl x1)] 15 [] (f_X6_lastPoint_15 x0 x1 M0) := by
  unfold f_X6_lastPoint_15
  exact j_lp (σ := Int) (n' := fun _ => tp_NC) (g' := fun u => tp_st M0) (k' := fun _ => 0) (q' := fun _ => 0) (lv' := fun u => [some (.inr (.inr x0)), some (.inl u)]) (fun rec_ hrec u => T_X6_lastPoint_15B G x0 M0 hg_x0 (fun x1' => rec_ x1') (fun x1' => hrec x1') u) tp_N x1
def f_X6_lastPoint (c0 : Int) (M0 : tp_M) : Option (Int) :=
  if tp_tg c0 = 6 then
    tp_lt ((tp_w ((min (M0 c0 1) 40) - 1))) fun y2 =>
    f_X6_lastPoint_15 c0 y2 M0 else none
set_option maxHeartbeats 4000000 in
set_option maxRecDepth 100000 in
theorem T_X6_lastPoint (G : tp_G) (c0 : Int) (M0 : tp_M) : tp_J i_X6_lastPoint (tp_rm 1) G 0 0 (o_X6_lastPoint M0) tp_NC (tp_st M0) 0 0 [some (.inr (.inr c0)), none] 0 [] (f_X6_lastPoint c0 M0) := by
  unfold f_X6_lastPoint
  refine tp_chk (fun ht1 => ?_)
  refine j_aload_n rfl d_X6_lastPoint_0 rfl ?_
  refine j_geti fl_Sheet_19 ht1 d_X6_lastPoint_1 ?_
  refine j_aload_n rfl d_X6_lastPoint_4 rfl ?_
  refine j_getr fl_Sheet_15 ht1 (fam_6_2 _ ht1).1 d_X6_lastPoint_5 ?_
  refine j_alen ((fam_6_2 _ ht1).2.1) (by decide) ((fam_6_2 _ ht1).2.2) ⟨by decide, by decide⟩ (ty := .int) (by decide) d_X6_lastPoint_8 ?_
  refine j_mmin wd_955 wd_482 wd_13 wd_483 ⟨(by decide : 1 ≤ ((tp_rm 1) : Room).frames), (by decide : 40 ≤ ((tp_rm 1) : Room).locals)⟩ ⟨by decide, by decide⟩ (Nat.le_of_ble_eq_true rfl) d_X6_lastPoint_9 ?_
  refine j_iconst ⟨by decide, by decide⟩ d_X6_lastPoint_12 ?_
  refine j_isub d_X6_lastPoint_13 ?_
  refine j_nmI (fun y2 hy2 => ?_)
  refine j_istore_n (lv' := [some (.inr (.inr c0)), some (.inl y2)]) rfl d_X6_lastPoint_14 (Nat.le_of_ble_eq_true rfl) rfl ?_
  exact j_wk [true, true] rfl rfl (T_X6_lastPoint_15 G c0 y2 M0 ht1)
set_option maxHeartbeats 4000000 in
set_option maxRecDepth 100000 in
theorem c_X6_lastPoint (G : tp_G) (c0 : Int) (M0 : tp_M) (r : Int) (h : f_X6_lastPoint c0 M0 = some r) (l : Launch) : Met l y_X6_lastPoint (tp_ws y_X6_lastPoint i_X6_lastPoint) (tp_rm 1) (tp_Pc G [.inr (.inr c0)] tp_NC (tp_st M0)) (tp_Q G ((o_X6_lastPoint M0) r)) 0 0 (tp_A G) :=
  tp_met (I := i_X6_lastPoint) (y := y_X6_lastPoint) (by decide +kernel) (Eq.refl "TypesAtPrime$Sheet") (Eq.refl "lastPoint") (lv := [some (.inr (.inr c0)), none]) rfl (Nat.le_of_ble_eq_true rfl) (T_X6_lastPoint G c0 M0) h l
theorem tg_18 : tp_tg 18 = 8 := by decide +kernel
theorem wd_80 : (.fieldLink "TypesAtPrime$TextReader" 15 "TypesAtPrime$TextReader" "letters" "[B" : Cond) ∈ lw_tbl := List.mem_append_right _ (List.mem_of_getElem? (i := 80) (by decide +kernel))
theorem fl_TextReader_15 : tp_F "TypesAtPrime$TextReader" 15 8 1 3 := ⟨_, _, _, rfl, by decide, rfl, wd_80, rfl, by decide⟩
theorem wd_82 : (.fieldLink "TypesAtPrime$TextReader" 29 "TypesAtPrime$TextReader" "place" "I" : Cond) ∈ lw_tbl := List.mem_append_right _ (List.mem_of_getElem? (i := 82) (by decide +kernel))
theorem fl_TextReader_29 : tp_F "TypesAtPrime$TextReader" 29 8 3 0 := ⟨_, _, _, rfl, by decide, rfl, wd_82, rfl, by decide⟩
theorem wd_81 : (.fieldLink "TypesAtPrime$TextReader" 25 "TypesAtPrime$TextReader" "size" "I" : Cond) ∈ lw_tbl := List.mem_append_right _ (List.mem_of_getElem? (i := 81) (by decide +kernel))
theorem fl_TextReader_25 : tp_F "TypesAtPrime$TextReader" 25 8 2 0 := ⟨_, _, _, rfl, by decide, rfl, wd_81, rfl, by decide⟩
def y_X8_next : MethodName := ⟨"TypesAtPrime$TextReader", "next", "()I"⟩
abbrev i_X8_next : tp_I := (prog_10_method_3_code, "TypesAtPrime$TextReader", (some .int), 1, "next")
abbrev o_X8_next (M : tp_M) : Int → tp_O := fun r => (some (.inl r), tp_NC, tp_st M)
theorem d_X8_next_0 : decode prog_10_method_3_code 0 = .ok (.aload_n 0, 1) := by decide +kernel
theorem d_X8_next_1 : decode prog_10_method_3_code 1 = .ok (.getfield 15, 3) := by decide +kernel
theorem d_X8_next_4 : decode prog_10_method_3_code 4 = .ok (.ifnull 45, 3) := by decide +kernel
theorem d_X8_next_7 : decode prog_10_method_3_code 7 = .ok (.aload_n 0, 1) := by decide +kernel
theorem d_X8_next_8 : decode prog_10_method_3_code 8 = .ok (.getfield 29, 3) := by decide +kernel
theorem d_X8_next_11 : decode prog_10_method_3_code 11 = .ok (.ifCond .lt 38, 3) := by decide +kernel
theorem d_X8_next_14 : decode prog_10_method_3_code 14 = .ok (.aload_n 0, 1) := by decide +kernel
theorem d_X8_next_15 : decode prog_10_method_3_code 15 = .ok (.getfield 29, 3) := by decide +kernel
theorem d_X8_next_18 : decode prog_10_method_3_code 18 = .ok (.aload_n 0, 1) := by decide +kernel
theorem d_X8_next_19 : decode prog_10_method_3_code 19 = .ok (.getfield 25, 3) := by decide +kernel
theorem d_X8_next_22 : decode prog_10_method_3_code 22 = .ok (.if_icmp .ge 27, 3) := by decide +kernel
theorem d_X8_next_25 : decode prog_10_method_3_code 25 = .ok (.aload_n 0, 1) := by decide +kernel
theorem d_X8_next_26 : decode prog_10_method_3_code 26 = .ok (.getfield 29, 3) := by decide +kernel
theorem d_X8_next_29 : decode prog_10_method_3_code 29 = .ok (.aload_n 0, 1) := by decide +kernel
theorem d_X8_next_30 : decode prog_10_method_3_code 30 = .ok (.getfield 15, 3) := by decide +kernel
theorem d_X8_next_33 : decode prog_10_method_3_code 33 = .ok (.arraylength, 1) := by decide +kernel
theorem d_X8_next_34 : decode prog_10_method_3_code 34 = .ok (.if_icmp .ge 15, 3) := by decide +kernel
theorem d_X8_next_37 : decode prog_10_method_3_code 37 = .ok (.aload_n 0, 1) := by decide +kernel
theorem d_X8_next_38 : decode prog_10_method_3_code 38 = .ok (.getfield 15, 3) := by decide +kernel
theorem d_X8_next_41 : decode prog_10_method_3_code 41 = .ok (.aload_n 0, 1) := by decide +kernel
theorem d_X8_next_42 : decode prog_10_method_3_code 42 = .ok (.getfield 29, 3) := by decide +kernel
theorem d_X8_next_45 : decode prog_10_method_3_code 45 = .ok (.baload, 1) := by decide +kernel
theorem d_X8_next_46 : decode prog_10_method_3_code 46 = .ok (.goto 4, 3) := by decide +kernel
theorem d_X8_next_49 : decode prog_10_method_3_code 49 = .ok (.iconst (-1), 1) := by decide +kernel
theorem d_X8_next_50 : decode prog_10_method_3_code 50 = .ok (.ireturn, 1) := by decide +kernel
def f_X8_next (M0 : tp_M) : Option (Int) :=
  if (M0 18 1) = -1 then
    some (-1)
  else
    if (M0 18 3) < 0 then
      some (-1)
    else
      if (M0 18 2) ≤ (M0 18 3) then
        some (-1)
      else
        if tp_tg (M0 18 1) = 20 then
          if (tp_al (M0 18 1)) ≤ (M0 18 3) then
            some (-1)
          else
            if tp_tg (M0 18 1) = 20 then
              if 0 ≤ (M0 18 3) ∧ (M0 18 3) < tp_al (M0 18 1) then
                some (M0 (M0 18 1) (M0 18 3)) else none else none else none
set_option maxHeartbeats 4000000 in
set_option maxRecDepth 100000 in
theorem T_X8_next (G : tp_G) (M0 : tp_M) : tp_J i_X8_next (tp_rm 0) G 0 0 (o_X8_next M0) tp_NC (tp_st M0) 0 0 [some (.inr (.inr 18))] 0 [] (f_X8_next M0) := by
  unfold f_X8_next
  refine j_aload_n rfl d_X8_next_0 rfl ?_
  refine j_getd fl_TextReader_15 tg_18 d_X8_next_1 ?_
  refine j_ifnull (tgt := 49) d_X8_next_4 (by decide) (fun h1 => ?_) (fun h1 => ?_)
  · refine j_iconst ⟨by decide, by decide⟩ d_X8_next_49 ?_
    exact j_iret d_X8_next_50 rfl rfl ⟨rfl, rfl⟩
  · refine j_aload_n rfl d_X8_next_7 rfl ?_
    refine j_geti fl_TextReader_29 tg_18 d_X8_next_8 ?_
    refine j_if_lt (tgt := 49) d_X8_next_11 (by decide) (fun h2 => ?_) (fun h2 => ?_)
    · refine j_iconst ⟨by decide, by decide⟩ d_X8_next_49 ?_
      exact j_iret d_X8_next_50 rfl rfl ⟨rfl, rfl⟩
    · refine j_aload_n rfl d_X8_next_14 rfl ?_
      refine j_geti fl_TextReader_29 tg_18 d_X8_next_15 ?_
      refine j_aload_n rfl d_X8_next_18 rfl ?_
      refine j_geti fl_TextReader_25 tg_18 d_X8_next_19 ?_
      refine j_icmp_ge (tgt := 49) d_X8_next_22 (by decide) (fun h3 => ?_) (fun h3 => ?_)
      · refine j_iconst ⟨by decide, by decide⟩ d_X8_next_49 ?_
        exact j_iret d_X8_next_50 rfl rfl ⟨rfl, rfl⟩
      · refine j_aload_n rfl d_X8_next_25 rfl ?_
        refine j_geti fl_TextReader_29 tg_18 d_X8_next_26 ?_
        refine j_aload_n rfl d_X8_next_29 rfl ?_
        refine j_getd fl_TextReader_15 tg_18 d_X8_next_30 ?_
        refine tp_chk (fun ht4 => ?_)
        refine j_alen ht4 (by decide) rfl (tp_al_r _) (ty := .byte) (by decide) d_X8_next_33 ?_
        refine j_icmp_ge (tgt := 49) d_X8_next_34 (by decide) (fun h5 => ?_) (fun h5 => ?_)
        · refine j_iconst ⟨by decide, by decide⟩ d_X8_next_49 ?_
          exact j_iret d_X8_next_50 rfl rfl ⟨rfl, rfl⟩
        · refine j_aload_n rfl d_X8_next_37 rfl ?_
          refine j_getd fl_TextReader_15 tg_18 d_X8_next_38 ?_
          refine j_aload_n rfl d_X8_next_41 rfl ?_
          refine j_geti fl_TextReader_29 tg_18 d_X8_next_42 ?_
          refine tp_chk (fun ht6 => ?_)
          refine j_bald ht6 rfl d_X8_next_45 ?_
          refine j_goto (tgt := 50) d_X8_next_46 (by decide) ?_
          exact j_iret d_X8_next_50 rfl rfl ⟨rfl, rfl⟩
set_option maxHeartbeats 4000000 in
set_option maxRecDepth 100000 in
theorem c_X8_next (G : tp_G) (M0 : tp_M) (r : Int) (h : f_X8_next M0 = some r) (l : Launch) : Met l y_X8_next (tp_ws y_X8_next i_X8_next) (tp_rm 0) (tp_Pc G [.inr (.inr 18)] tp_NC (tp_st M0)) (tp_Q G ((o_X8_next M0) r)) 0 0 (tp_A G) :=
  tp_met (I := i_X8_next) (y := y_X8_next) (by decide +kernel) (Eq.refl "TypesAtPrime$TextReader") (Eq.refl "next") (lv := [some (.inr (.inr 18))]) rfl (Nat.le_of_ble_eq_true rfl) (T_X8_next G M0) h l
theorem wd_490 : (.code ⟨"TypesAtPrime$TextReader", "next", "()I"⟩ prog_10_method_3_code 1 (some .int) : Cond) ∈ lw_tbl := List.mem_append_right _ (List.mem_of_getElem? (i := 490) (by decide +kernel))
theorem wd_4 : (.initialized "TypesAtPrime$TextReader" : Cond) ∈ lw_tbl := List.mem_append_right _ (List.mem_of_getElem? (i := 4) (by decide +kernel))
theorem cs_TextReader_38 : tp_CS "TypesAtPrime$TextReader" 38 y_X8_next i_X8_next 0 := ⟨wd_490, wd_4, by decide, by decide, by decide +kernel⟩
theorem wd_487 : (.methodLink "TypesAtPrime$TextReader" 38 ⟨"TypesAtPrime$TextReader", "next", "()I"⟩ : Cond) ∈ lw_tbl := List.mem_append_right _ (List.mem_of_getElem? (i := 487) (by decide +kernel))
theorem wd_489 : (.instanceMethod ⟨"TypesAtPrime$TextReader", "next", "()I"⟩ : Cond) ∈ lw_tbl := List.mem_append_right _ (List.mem_of_getElem? (i := 489) (by decide +kernel))
theorem ws_0 : (.selects "TypesAtPrime$TextReader" ⟨"TypesAtPrime$TextReader", "next", "()I"⟩ ⟨"TypesAtPrime$TextReader", "next", "()I"⟩ : Cond) ∈ lw_tbl := List.mem_append_left _ (List.mem_of_getElem? (i := 0) (by decide +kernel))
def y_X8_atDigit : MethodName := ⟨"TypesAtPrime$TextReader", "atDigit", "(C)Z"⟩
abbrev i_X8_atDigit : tp_I := (prog_10_method_4_code, "TypesAtPrime$TextReader", (some .boolean), 2, "atDigit")
abbrev o_X8_atDigit (M : tp_M) : Int → tp_O := fun r => (some (.inl r), tp_NC, tp_st M)
theorem d_X8_atDigit_0 : decode prog_10_method_4_code 0 = .ok (.aload_n 0, 1) := by decide +kernel
theorem d_X8_atDigit_1 : decode prog_10_method_4_code 1 = .ok (.invokevirtual 38, 3) := by decide +kernel
theorem d_X8_atDigit_4 : decode prog_10_method_4_code 4 = .ok (.bipush 48, 2) := by decide +kernel
theorem d_X8_atDigit_6 : decode prog_10_method_4_code 6 = .ok (.if_icmp .lt 15, 3) := by decide +kernel
theorem d_X8_atDigit_9 : decode prog_10_method_4_code 9 = .ok (.aload_n 0, 1) := by decide +kernel
theorem d_X8_atDigit_10 : decode prog_10_method_4_code 10 = .ok (.invokevirtual 38, 3) := by decide +kernel
theorem d_X8_atDigit_13 : decode prog_10_method_4_code 13 = .ok (.iload_n 1, 1) := by decide +kernel
theorem d_X8_atDigit_14 : decode prog_10_method_4_code 14 = .ok (.if_icmp .gt 7, 3) := by decide +kernel
theorem d_X8_atDigit_17 : decode prog_10_method_4_code 17 = .ok (.iconst 1, 1) := by decide +kernel
theorem d_X8_atDigit_18 : decode prog_10_method_4_code 18 = .ok (.goto 4, 3) := by decide +kernel
theorem d_X8_atDigit_21 : decode prog_10_method_4_code 21 = .ok (.iconst 0, 1) := by decide +kernel
theorem d_X8_atDigit_22 : decode prog_10_method_4_code 22 = .ok (.ireturn, 1) := by decide +kernel
def f_X8_atDigit (a0 : Int) (M0 : tp_M) : Option (Int) :=
  (f_X8_next M0).bind fun r1 =>
  if r1 < 48 then
    some 0
  else
    (f_X8_next M0).bind fun r4 =>
    if a0 < r4 then
      some 0
    else
      some 1
set_option maxHeartbeats 4000000 in
set_option maxRecDepth 100000 in
theorem T_X8_atDigit (G : tp_G) (a0 : Int) (M0 : tp_M) : tp_J i_X8_atDigit (tp_rm 1) G 0 0 (o_X8_atDigit M0) tp_NC (tp_st M0) 0 0 [some (.inr (.inr 18)), some (.inl a0)] 0 [] (f_X8_atDigit a0 M0) := by
  unfold f_X8_atDigit
  refine j_aload_n rfl d_X8_atDigit_0 rfl ?_
  refine j_bind (fun r1 h2 => ?_)
  refine j_callV (y := y_X8_next) (I' := i_X8_next) (avs := []) (c := 18) (st := []) (c_X8_next G M0 r1 h2) cs_TextReader_38 wd_487 wd_489 ws_0 tg_18 rfl rfl rfl (Nat.le_of_ble_eq_true rfl) ⟨rfl, rfl⟩ ⟨by decide, by decide⟩ ⟨by decide, by decide⟩ d_X8_atDigit_1 ?_
  refine j_bipush ⟨by decide, by decide⟩ (by decide +kernel) d_X8_atDigit_4 ?_
  refine j_icmp_lt (tgt := 21) d_X8_atDigit_6 (by decide) (fun h3 => ?_) (fun h3 => ?_)
  · refine j_iconst ⟨by decide, by decide⟩ d_X8_atDigit_21 ?_
    exact j_zret d_X8_atDigit_22 rfl (Or.inl rfl) rfl ⟨rfl, rfl⟩
  · refine j_aload_n rfl d_X8_atDigit_9 rfl ?_
    refine j_bind (fun r4 h5 => ?_)
    refine j_callV (y := y_X8_next) (I' := i_X8_next) (avs := []) (c := 18) (st := []) (c_X8_next G M0 r4 h5) cs_TextReader_38 wd_487 wd_489 ws_0 tg_18 rfl rfl rfl (Nat.le_of_ble_eq_true rfl) ⟨rfl, rfl⟩ ⟨by decide, by decide⟩ ⟨by decide, by decide⟩ d_X8_atDigit_10 ?_
    refine j_iload_n rfl d_X8_atDigit_13 rfl ?_
    refine j_icmp_gt (tgt := 21) d_X8_atDigit_14 (by decide) (fun h6 => ?_) (fun h6 => ?_)
    · refine j_iconst ⟨by decide, by decide⟩ d_X8_atDigit_21 ?_
      exact j_zret d_X8_atDigit_22 rfl (Or.inl rfl) rfl ⟨rfl, rfl⟩
    · refine j_iconst ⟨by decide, by decide⟩ d_X8_atDigit_17 ?_
      refine j_goto (tgt := 22) d_X8_atDigit_18 (by decide) ?_
      exact j_zret d_X8_atDigit_22 rfl (Or.inr rfl) rfl ⟨rfl, rfl⟩
set_option maxHeartbeats 4000000 in
set_option maxRecDepth 100000 in
theorem c_X8_atDigit (G : tp_G) (a0 : Int) (M0 : tp_M) (r : Int) (h : f_X8_atDigit a0 M0 = some r) (l : Launch) : Met l y_X8_atDigit (tp_ws y_X8_atDigit i_X8_atDigit) (tp_rm 1) (tp_Pc G [.inr (.inr 18), .inl a0] tp_NC (tp_st M0)) (tp_Q G ((o_X8_atDigit M0) r)) 0 0 (tp_A G) :=
  tp_met (I := i_X8_atDigit) (y := y_X8_atDigit) (by decide +kernel) (Eq.refl "TypesAtPrime$TextReader") (Eq.refl "atDigit") (lv := [some (.inr (.inr 18)), some (.inl a0)]) rfl (Nat.le_of_ble_eq_true rfl) (T_X8_atDigit G a0 M0) h l
theorem pf_8_3 (v : Int) : ∀ (C : String) (T : u_T) (N : Nat), vwCl[8]? = some (C, T, N) → (T 3).2.2.2 = false ∧ ∀ G : tp_G, ∃ ty, parseFieldDescriptor (T 3).2.2.1 = some ty ∧ narrow ty (tp_enc G (tp_zv 0 v)) = tp_enc G (tp_zv 0 v) ∧ fits ty (tp_enc G (tp_zv 0 v)) = true := by
  intro C T N h
  cases h
  exact ⟨rfl, fun G => ⟨_, tyX8_ok 3 (by decide), rfl, rfl⟩⟩
theorem pt_8 : ∃ ty0 : Nat → FieldType, ∀ (C : String) (T : u_T) (N : Nat), vwCl[8]? = some (C, T, N) → (∀ k, k < N → parseFieldDescriptor (T k).2.2.1 = some (ty0 k)) ∧ ∀ a, a < N → ∀ b, b < N → a ≠ b → (T a).2.1 ≠ (T b).2.1 := ⟨tyX8, fun C T N h => by cases h; exact ⟨tyX8_ok, nmX8⟩⟩
theorem wd_78 : (.fieldLink "TypesAtPrime$TextReader" 9 "TypesAtPrime$TextReader" "sums" "[I" : Cond) ∈ lw_tbl := List.mem_append_right _ (List.mem_of_getElem? (i := 78) (by decide +kernel))
theorem fl_TextReader_9 : tp_F "TypesAtPrime$TextReader" 9 8 0 2 := ⟨_, _, _, rfl, by decide, rfl, wd_78, rfl, by decide⟩
theorem tg_19 : tp_tg 19 = 21 := by decide +kernel
theorem al_19 : tp_al 19 = 9 := by decide +kernel
theorem rv_18_0 : tp_rv 18 0 = 19 := by decide +kernel
theorem wd_498 : (.code ⟨"TypesAtPrime$TextReader", "atDigit", "(C)Z"⟩ prog_10_method_4_code 2 (some .boolean) : Cond) ∈ lw_tbl := List.mem_append_right _ (List.mem_of_getElem? (i := 498) (by decide +kernel))
theorem cs_TextReader_46 : tp_CS "TypesAtPrime$TextReader" 46 y_X8_atDigit i_X8_atDigit 1 := ⟨wd_498, wd_4, by decide, by decide, by decide +kernel⟩
theorem wd_495 : (.methodLink "TypesAtPrime$TextReader" 46 ⟨"TypesAtPrime$TextReader", "atDigit", "(C)Z"⟩ : Cond) ∈ lw_tbl := List.mem_append_right _ (List.mem_of_getElem? (i := 495) (by decide +kernel))
theorem wd_497 : (.instanceMethod ⟨"TypesAtPrime$TextReader", "atDigit", "(C)Z"⟩ : Cond) ∈ lw_tbl := List.mem_append_right _ (List.mem_of_getElem? (i := 497) (by decide +kernel))
theorem ws_2 : (.selects "TypesAtPrime$TextReader" ⟨"TypesAtPrime$TextReader", "atDigit", "(C)Z"⟩ ⟨"TypesAtPrime$TextReader", "atDigit", "(C)Z"⟩ : Cond) ∈ lw_tbl := List.mem_append_left _ (List.mem_of_getElem? (i := 2) (by decide +kernel))
def y_X8_readPower : MethodName := ⟨"TypesAtPrime$TextReader", "readPower", "(I)Z"⟩
abbrev i_X8_readPower : tp_I := (prog_10_method_6_code, "TypesAtPrime$TextReader", (some .boolean), 3, "readPower")
abbrev o_X8_readPower : Int × tp_M → tp_O := fun r => (some (.inl r.1), tp_NC, tp_st r.2)
theorem d_X8_readPower_0 : decode prog_10_method_6_code 0 = .ok (.aload_n 0, 1) := by decide +kernel
theorem d_X8_readPower_1 : decode prog_10_method_6_code 1 = .ok (.invokevirtual 38, 3) := by decide +kernel
theorem d_X8_readPower_4 : decode prog_10_method_6_code 4 = .ok (.bipush 120, 2) := by decide +kernel
theorem d_X8_readPower_6 : decode prog_10_method_6_code 6 = .ok (.if_icmp .eq 5, 3) := by decide +kernel
theorem d_X8_readPower_9 : decode prog_10_method_6_code 9 = .ok (.iconst 0, 1) := by decide +kernel
theorem d_X8_readPower_10 : decode prog_10_method_6_code 10 = .ok (.ireturn, 1) := by decide +kernel
theorem d_X8_readPower_11 : decode prog_10_method_6_code 11 = .ok (.aload_n 0, 1) := by decide +kernel
theorem d_X8_readPower_12 : decode prog_10_method_6_code 12 = .ok (.dup, 1) := by decide +kernel
theorem d_X8_readPower_13 : decode prog_10_method_6_code 13 = .ok (.getfield 29, 3) := by decide +kernel
theorem d_X8_readPower_16 : decode prog_10_method_6_code 16 = .ok (.iconst 1, 1) := by decide +kernel
theorem d_X8_readPower_17 : decode prog_10_method_6_code 17 = .ok (.iadd, 1) := by decide +kernel
theorem d_X8_readPower_18 : decode prog_10_method_6_code 18 = .ok (.putfield 29, 3) := by decide +kernel
theorem d_X8_readPower_21 : decode prog_10_method_6_code 21 = .ok (.iconst 1, 1) := by decide +kernel
theorem d_X8_readPower_22 : decode prog_10_method_6_code 22 = .ok (.istore_n 2, 1) := by decide +kernel
theorem d_X8_readPower_23 : decode prog_10_method_6_code 23 = .ok (.aload_n 0, 1) := by decide +kernel
theorem d_X8_readPower_24 : decode prog_10_method_6_code 24 = .ok (.invokevirtual 38, 3) := by decide +kernel
theorem d_X8_readPower_27 : decode prog_10_method_6_code 27 = .ok (.bipush 94, 2) := by decide +kernel
theorem d_X8_readPower_29 : decode prog_10_method_6_code 29 = .ok (.if_icmp .ne 42, 3) := by decide +kernel
theorem d_X8_readPower_32 : decode prog_10_method_6_code 32 = .ok (.aload_n 0, 1) := by decide +kernel
theorem d_X8_readPower_33 : decode prog_10_method_6_code 33 = .ok (.dup, 1) := by decide +kernel
theorem d_X8_readPower_34 : decode prog_10_method_6_code 34 = .ok (.getfield 29, 3) := by decide +kernel
theorem d_X8_readPower_37 : decode prog_10_method_6_code 37 = .ok (.iconst 1, 1) := by decide +kernel
theorem d_X8_readPower_38 : decode prog_10_method_6_code 38 = .ok (.iadd, 1) := by decide +kernel
theorem d_X8_readPower_39 : decode prog_10_method_6_code 39 = .ok (.putfield 29, 3) := by decide +kernel
theorem d_X8_readPower_42 : decode prog_10_method_6_code 42 = .ok (.aload_n 0, 1) := by decide +kernel
theorem d_X8_readPower_43 : decode prog_10_method_6_code 43 = .ok (.bipush 56, 2) := by decide +kernel
theorem d_X8_readPower_45 : decode prog_10_method_6_code 45 = .ok (.invokevirtual 46, 3) := by decide +kernel
theorem d_X8_readPower_48 : decode prog_10_method_6_code 48 = .ok (.ifCond .ne 5, 3) := by decide +kernel
theorem d_X8_readPower_51 : decode prog_10_method_6_code 51 = .ok (.iconst 0, 1) := by decide +kernel
theorem d_X8_readPower_52 : decode prog_10_method_6_code 52 = .ok (.ireturn, 1) := by decide +kernel
theorem d_X8_readPower_53 : decode prog_10_method_6_code 53 = .ok (.aload_n 0, 1) := by decide +kernel
theorem d_X8_readPower_54 : decode prog_10_method_6_code 54 = .ok (.invokevirtual 38, 3) := by decide +kernel
theorem d_X8_readPower_57 : decode prog_10_method_6_code 57 = .ok (.bipush 48, 2) := by decide +kernel
theorem d_X8_readPower_59 : decode prog_10_method_6_code 59 = .ok (.isub, 1) := by decide +kernel
theorem d_X8_readPower_60 : decode prog_10_method_6_code 60 = .ok (.istore_n 2, 1) := by decide +kernel
theorem d_X8_readPower_61 : decode prog_10_method_6_code 61 = .ok (.aload_n 0, 1) := by decide +kernel
theorem d_X8_readPower_62 : decode prog_10_method_6_code 62 = .ok (.dup, 1) := by decide +kernel
theorem d_X8_readPower_63 : decode prog_10_method_6_code 63 = .ok (.getfield 29, 3) := by decide +kernel
theorem d_X8_readPower_66 : decode prog_10_method_6_code 66 = .ok (.iconst 1, 1) := by decide +kernel
theorem d_X8_readPower_67 : decode prog_10_method_6_code 67 = .ok (.iadd, 1) := by decide +kernel
theorem d_X8_readPower_68 : decode prog_10_method_6_code 68 = .ok (.putfield 29, 3) := by decide +kernel
theorem d_X8_readPower_71 : decode prog_10_method_6_code 71 = .ok (.iload_n 2, 1) := by decide +kernel
theorem d_X8_readPower_72 : decode prog_10_method_6_code 72 = .ok (.ifCond .lt 12, 3) := by decide +kernel
theorem d_X8_readPower_75 : decode prog_10_method_6_code 75 = .ok (.iload_n 2, 1) := by decide +kernel
theorem d_X8_readPower_76 : decode prog_10_method_6_code 76 = .ok (.aload_n 0, 1) := by decide +kernel
theorem d_X8_readPower_77 : decode prog_10_method_6_code 77 = .ok (.getfield 9, 3) := by decide +kernel
theorem d_X8_readPower_80 : decode prog_10_method_6_code 80 = .ok (.arraylength, 1) := by decide +kernel
theorem d_X8_readPower_81 : decode prog_10_method_6_code 81 = .ok (.if_icmp .lt 5, 3) := by decide +kernel
theorem d_X8_readPower_84 : decode prog_10_method_6_code 84 = .ok (.iconst 0, 1) := by decide +kernel
theorem d_X8_readPower_85 : decode prog_10_method_6_code 85 = .ok (.ireturn, 1) := by decide +kernel
theorem d_X8_readPower_86 : decode prog_10_method_6_code 86 = .ok (.aload_n 0, 1) := by decide +kernel
theorem d_X8_readPower_87 : decode prog_10_method_6_code 87 = .ok (.getfield 9, 3) := by decide +kernel
theorem d_X8_readPower_90 : decode prog_10_method_6_code 90 = .ok (.iload_n 2, 1) := by decide +kernel
theorem d_X8_readPower_91 : decode prog_10_method_6_code 91 = .ok (.dup2, 1) := by decide +kernel
theorem d_X8_readPower_92 : decode prog_10_method_6_code 92 = .ok (.iaload, 1) := by decide +kernel
theorem d_X8_readPower_93 : decode prog_10_method_6_code 93 = .ok (.iload_n 1, 1) := by decide +kernel
theorem d_X8_readPower_94 : decode prog_10_method_6_code 94 = .ok (.iadd, 1) := by decide +kernel
theorem d_X8_readPower_95 : decode prog_10_method_6_code 95 = .ok (.iastore, 1) := by decide +kernel
theorem d_X8_readPower_96 : decode prog_10_method_6_code 96 = .ok (.iconst 1, 1) := by decide +kernel
theorem d_X8_readPower_97 : decode prog_10_method_6_code 97 = .ok (.ireturn, 1) := by decide +kernel
def f_X8_readPower_71 (x1 : Int) (x2 : Int) (M0 : tp_M) : Option (Int × tp_M) :=
  if x2 < 0 then
    some (0, M0)
  else
    if x2 < 9 then
      if 0 ≤ x2 ∧ x2 < 9 then
        if 0 ≤ x2 ∧ x2 < 9 then
          tp_mp (tp_up M0 19 x2 (tp_w ((M0 19 x2) + x1))) fun M10 =>
          some (1, M10) else none else none
    else
      some (0, M0)
set_option maxHeartbeats 4000000 in
set_option maxRecDepth 100000 in
theorem T_X8_readPower_71 (G : tp_G) (x1 : Int) (x2 : Int) (M0 : tp_M) : tp_J i_X8_readPower (tp_rm 2) G 0 0 o_X8_readPower tp_NC (tp_st M0) 0 0 [some (.inr (.inr 18)), some (.inl x1), some (.inl x2)] 71 [] (f_X8_readPower_71 x1 x2 M0) := by
  unfold f_X8_readPower_71
  refine j_iload_n rfl d_X8_readPower_71 rfl ?_
  refine j_if_lt (tgt := 84) d_X8_readPower_72 (by decide) (fun h8 => ?_) (fun h8 => ?_)
  · refine j_iconst ⟨by decide, by decide⟩ d_X8_readPower_84 ?_
    exact j_zret d_X8_readPower_85 rfl (Or.inl rfl) rfl ⟨rfl, rfl⟩
  · refine j_iload_n rfl d_X8_readPower_75 rfl ?_
    refine j_aload_n rfl d_X8_readPower_76 rfl ?_
    refine j_getr fl_TextReader_9 tg_18 rv_18_0 d_X8_readPower_77 ?_
    refine j_alen tg_19 (by decide) al_19 ⟨by decide, by decide⟩ (ty := .int) (by decide) d_X8_readPower_80 ?_
    refine j_icmp_lt (tgt := 86) d_X8_readPower_81 (by decide) (fun h9 => ?_) (fun h9 => ?_)
    · refine j_aload_n rfl d_X8_readPower_86 rfl ?_
      refine j_getr fl_TextReader_9 tg_18 rv_18_0 d_X8_readPower_87 ?_
      refine j_iload_n rfl d_X8_readPower_90 rfl ?_
      refine j_dup2 d_X8_readPower_91 (fun G => tp_cat G _) (fun G => tp_cat G _) ?_
      refine j_iald tg_19 al_19 d_X8_readPower_92 ?_
      refine j_iload_n rfl d_X8_readPower_93 rfl ?_
      refine j_iadd d_X8_readPower_94 ?_
      refine j_iast tg_19 al_19 d_X8_readPower_95 (fun M10 hM10 => ?_)
      refine j_iconst ⟨by decide, by decide⟩ d_X8_readPower_96 ?_
      exact j_zret d_X8_readPower_97 rfl (Or.inr rfl) rfl ⟨rfl, rfl⟩
    · refine j_iconst ⟨by decide, by decide⟩ d_X8_readPower_84 ?_
      exact j_zret d_X8_readPower_85 rfl (Or.inl rfl) rfl ⟨rfl, rfl⟩
def f_X8_readPower (a0 : Int) (M0 : tp_M) : Option (Int × tp_M) :=
  (f_X8_next M0).bind fun r1 =>
  if r1 = 120 then
    tp_mp (tp_up M0 18 3 (tp_w ((M0 18 3) + 1))) fun M4 =>
    (f_X8_next M4).bind fun r5 =>
    if ¬ r5 = 94 then
      f_X8_readPower_71 a0 1 M4
    else
      tp_mp (tp_up M4 18 3 (tp_w ((M4 18 3) + 1))) fun M11 =>
      (f_X8_atDigit 56 M11).bind fun r12 =>
      if ¬ r12 = 0 then
        (f_X8_next M11).bind fun r15 =>
        tp_lt ((tp_w (r15 - 48))) fun y17 =>
        tp_mp (tp_up M11 18 3 (tp_w ((M11 18 3) + 1))) fun M18 =>
        f_X8_readPower_71 a0 y17 M18
      else
        some (0, M11)
  else
    some (0, M0)
set_option maxHeartbeats 4000000 in
set_option maxRecDepth 100000 in
theorem T_X8_readPower (G : tp_G) (a0 : Int) (M0 : tp_M) : tp_J i_X8_readPower (tp_rm 2) G 0 0 o_X8_readPower tp_NC (tp_st M0) 0 0 [some (.inr (.inr 18)), some (.inl a0), none] 0 [] (f_X8_readPower a0 M0) := by
  unfold f_X8_readPower
  refine j_aload_n rfl d_X8_readPower_0 rfl ?_
  refine j_bind (fun r1 h2 => ?_)
  refine j_callV (y := y_X8_next) (I' := i_X8_next) (avs := []) (c := 18) (st := []) (c_X8_next G M0 r1 h2) cs_TextReader_38 wd_487 wd_489 ws_0 tg_18 rfl rfl rfl (Nat.le_of_ble_eq_true rfl) ⟨rfl, rfl⟩ ⟨by decide, by decide⟩ ⟨by decide, by decide⟩ d_X8_readPower_1 ?_
  refine j_bipush ⟨by decide, by decide⟩ (by decide +kernel) d_X8_readPower_4 ?_
  refine j_icmp_eq (tgt := 11) d_X8_readPower_6 (by decide) (fun h3 => ?_) (fun h3 => ?_)
  · refine j_aload_n rfl d_X8_readPower_11 rfl ?_
    refine j_dup d_X8_readPower_12 (fun G => tp_cat G _) ?_
    refine j_geti fl_TextReader_29 tg_18 d_X8_readPower_13 ?_
    refine j_iconst ⟨by decide, by decide⟩ d_X8_readPower_16 ?_
    refine j_iadd d_X8_readPower_17 ?_
    refine j_put (z := 0) (v := (tp_w ((M0 18 3) + 1))) fl_TextReader_29 (by decide) tg_18 (pf_8_3 _) pt_8 d_X8_readPower_18 (fun M4 hM4 => ?_)
    refine j_iconst ⟨by decide, by decide⟩ d_X8_readPower_21 ?_
    refine j_istore_n (lv' := [some (.inr (.inr 18)), some (.inl a0), some (.inl 1)]) rfl d_X8_readPower_22 (Nat.le_of_ble_eq_true rfl) rfl ?_
    refine j_aload_n rfl d_X8_readPower_23 rfl ?_
    refine j_bind (fun r5 h6 => ?_)
    refine j_callV (y := y_X8_next) (I' := i_X8_next) (avs := []) (c := 18) (st := []) (c_X8_next G M4 r5 h6) cs_TextReader_38 wd_487 wd_489 ws_0 tg_18 rfl rfl rfl (Nat.le_of_ble_eq_true rfl) ⟨rfl, rfl⟩ ⟨by decide, by decide⟩ ⟨by decide, by decide⟩ d_X8_readPower_24 ?_
    refine j_bipush ⟨by decide, by decide⟩ (by decide +kernel) d_X8_readPower_27 ?_
    refine j_icmp_ne (tgt := 71) d_X8_readPower_29 (by decide) (fun h7 => ?_) (fun h7 => ?_)
    · exact j_wk [true, true, true] rfl rfl (T_X8_readPower_71 G a0 1 M4)
    · refine j_aload_n rfl d_X8_readPower_32 rfl ?_
      refine j_dup d_X8_readPower_33 (fun G => tp_cat G _) ?_
      refine j_geti fl_TextReader_29 tg_18 d_X8_readPower_34 ?_
      refine j_iconst ⟨by decide, by decide⟩ d_X8_readPower_37 ?_
      refine j_iadd d_X8_readPower_38 ?_
      refine j_put (z := 0) (v := (tp_w ((M4 18 3) + 1))) fl_TextReader_29 (by decide) tg_18 (pf_8_3 _) pt_8 d_X8_readPower_39 (fun M11 hM11 => ?_)
      refine j_aload_n rfl d_X8_readPower_42 rfl ?_
      refine j_bipush ⟨by decide, by decide⟩ (by decide +kernel) d_X8_readPower_43 ?_
      refine j_bind (fun r12 h13 => ?_)
      refine j_callV (y := y_X8_atDigit) (I' := i_X8_atDigit) (avs := [.inl 56]) (c := 18) (st := []) (c_X8_atDigit G 56 M11 r12 h13) cs_TextReader_46 wd_495 wd_497 ws_2 tg_18 rfl rfl rfl (Nat.le_of_ble_eq_true rfl) ⟨rfl, rfl⟩ ⟨by decide, by decide⟩ ⟨by decide, by decide⟩ d_X8_readPower_45 ?_
      refine j_if_ne (tgt := 53) d_X8_readPower_48 (by decide) (fun h14 => ?_) (fun h14 => ?_)
      · refine j_aload_n rfl d_X8_readPower_53 rfl ?_
        refine j_bind (fun r15 h16 => ?_)
        refine j_callV (y := y_X8_next) (I' := i_X8_next) (avs := []) (c := 18) (st := []) (c_X8_next G M11 r15 h16) cs_TextReader_38 wd_487 wd_489 ws_0 tg_18 rfl rfl rfl (Nat.le_of_ble_eq_true rfl) ⟨rfl, rfl⟩ ⟨by decide, by decide⟩ ⟨by decide, by decide⟩ d_X8_readPower_54 ?_
        refine j_bipush ⟨by decide, by decide⟩ (by decide +kernel) d_X8_readPower_57 ?_
        refine j_isub d_X8_readPower_59 ?_
        refine j_nmI (fun y17 hy17 => ?_)
        refine j_istore_n (lv' := [some (.inr (.inr 18)), some (.inl a0), some (.inl y17)]) rfl d_X8_readPower_60 (Nat.le_of_ble_eq_true rfl) rfl ?_
        refine j_aload_n rfl d_X8_readPower_61 rfl ?_
        refine j_dup d_X8_readPower_62 (fun G => tp_cat G _) ?_
        refine j_geti fl_TextReader_29 tg_18 d_X8_readPower_63 ?_
        refine j_iconst ⟨by decide, by decide⟩ d_X8_readPower_66 ?_
        refine j_iadd d_X8_readPower_67 ?_
        refine j_put (z := 0) (v := (tp_w ((M11 18 3) + 1))) fl_TextReader_29 (by decide) tg_18 (pf_8_3 _) pt_8 d_X8_readPower_68 (fun M18 hM18 => ?_)
        exact j_wk [true, true, true] rfl rfl (T_X8_readPower_71 G a0 y17 M18)
      · refine j_iconst ⟨by decide, by decide⟩ d_X8_readPower_51 ?_
        exact j_zret d_X8_readPower_52 rfl (Or.inl rfl) rfl ⟨rfl, rfl⟩
  · refine j_iconst ⟨by decide, by decide⟩ d_X8_readPower_9 ?_
    exact j_zret d_X8_readPower_10 rfl (Or.inl rfl) rfl ⟨rfl, rfl⟩
set_option maxHeartbeats 4000000 in
set_option maxRecDepth 100000 in
theorem c_X8_readPower (G : tp_G) (a0 : Int) (M0 : tp_M) (r : Int × tp_M) (h : f_X8_readPower a0 M0 = some r) (l : Launch) : Met l y_X8_readPower (tp_ws y_X8_readPower i_X8_readPower) (tp_rm 2) (tp_Pc G [.inr (.inr 18), .inl a0] tp_NC (tp_st M0)) (tp_Q G (o_X8_readPower r)) 0 0 (tp_A G) :=
  tp_met (I := i_X8_readPower) (y := y_X8_readPower) (by decide +kernel) (Eq.refl "TypesAtPrime$TextReader") (Eq.refl "readPower") (lv := [some (.inr (.inr 18)), some (.inl a0), none]) rfl (Nat.le_of_ble_eq_true rfl) (T_X8_readPower G a0 M0) h l
theorem wd_502 : (.code ⟨"TypesAtPrime$TextReader", "readPower", "(I)Z"⟩ prog_10_method_6_code 3 (some .boolean) : Cond) ∈ lw_tbl := List.mem_append_right _ (List.mem_of_getElem? (i := 502) (by decide +kernel))
theorem cs_TextReader_50 : tp_CS "TypesAtPrime$TextReader" 50 y_X8_readPower i_X8_readPower 1 := ⟨wd_502, wd_4, by decide, by decide, by decide +kernel⟩
theorem wd_499 : (.methodLink "TypesAtPrime$TextReader" 50 ⟨"TypesAtPrime$TextReader", "readPower", "(I)Z"⟩ : Cond) ∈ lw_tbl := List.mem_append_right _ (List.mem_of_getElem? (i := 499) (by decide +kernel))
theorem wd_501 : (.instanceMethod ⟨"TypesAtPrime$TextReader", "readPower", "(I)Z"⟩ : Cond) ∈ lw_tbl := List.mem_append_right _ (List.mem_of_getElem? (i := 501) (by decide +kernel))
theorem ws_3 : (.selects "TypesAtPrime$TextReader" ⟨"TypesAtPrime$TextReader", "readPower", "(I)Z"⟩ ⟨"TypesAtPrime$TextReader", "readPower", "(I)Z"⟩ : Cond) ∈ lw_tbl := List.mem_append_left _ (List.mem_of_getElem? (i := 3) (by decide +kernel))
def y_X8_readTerm : MethodName := ⟨"TypesAtPrime$TextReader", "readTerm", "(I)Z"⟩
abbrev i_X8_readTerm : tp_I := (prog_10_method_5_code, "TypesAtPrime$TextReader", (some .boolean), 4, "readTerm")
abbrev o_X8_readTerm : Int × tp_M → tp_O := fun r => (some (.inl r.1), tp_NC, tp_st r.2)
theorem d_X8_readTerm_0 : decode prog_10_method_5_code 0 = .ok (.aload_n 0, 1) := by decide +kernel
theorem d_X8_readTerm_1 : decode prog_10_method_5_code 1 = .ok (.bipush 57, 2) := by decide +kernel
theorem d_X8_readTerm_3 : decode prog_10_method_5_code 3 = .ok (.invokevirtual 46, 3) := by decide +kernel
theorem d_X8_readTerm_6 : decode prog_10_method_5_code 6 = .ok (.ifCond .ne 9, 3) := by decide +kernel
theorem d_X8_readTerm_9 : decode prog_10_method_5_code 9 = .ok (.aload_n 0, 1) := by decide +kernel
theorem d_X8_readTerm_10 : decode prog_10_method_5_code 10 = .ok (.iload_n 1, 1) := by decide +kernel
theorem d_X8_readTerm_11 : decode prog_10_method_5_code 11 = .ok (.invokevirtual 50, 3) := by decide +kernel
theorem d_X8_readTerm_14 : decode prog_10_method_5_code 14 = .ok (.ireturn, 1) := by decide +kernel
theorem d_X8_readTerm_15 : decode prog_10_method_5_code 15 = .ok (.iconst 0, 1) := by decide +kernel
theorem d_X8_readTerm_16 : decode prog_10_method_5_code 16 = .ok (.istore_n 2, 1) := by decide +kernel
theorem d_X8_readTerm_17 : decode prog_10_method_5_code 17 = .ok (.iconst 0, 1) := by decide +kernel
theorem d_X8_readTerm_18 : decode prog_10_method_5_code 18 = .ok (.istore_n 3, 1) := by decide +kernel
theorem d_X8_readTerm_19 : decode prog_10_method_5_code 19 = .ok (.iload_n 3, 1) := by decide +kernel
theorem d_X8_readTerm_20 : decode prog_10_method_5_code 20 = .ok (.iconst 4, 1) := by decide +kernel
theorem d_X8_readTerm_21 : decode prog_10_method_5_code 21 = .ok (.if_icmp .ge 41, 3) := by decide +kernel
theorem d_X8_readTerm_24 : decode prog_10_method_5_code 24 = .ok (.aload_n 0, 1) := by decide +kernel
theorem d_X8_readTerm_25 : decode prog_10_method_5_code 25 = .ok (.bipush 57, 2) := by decide +kernel
theorem d_X8_readTerm_27 : decode prog_10_method_5_code 27 = .ok (.invokevirtual 46, 3) := by decide +kernel
theorem d_X8_readTerm_30 : decode prog_10_method_5_code 30 = .ok (.ifCond .eq 32, 3) := by decide +kernel
theorem d_X8_readTerm_33 : decode prog_10_method_5_code 33 = .ok (.bipush 10, 2) := by decide +kernel
theorem d_X8_readTerm_35 : decode prog_10_method_5_code 35 = .ok (.iload_n 2, 1) := by decide +kernel
theorem d_X8_readTerm_36 : decode prog_10_method_5_code 36 = .ok (.imul, 1) := by decide +kernel
theorem d_X8_readTerm_37 : decode prog_10_method_5_code 37 = .ok (.aload_n 0, 1) := by decide +kernel
theorem d_X8_readTerm_38 : decode prog_10_method_5_code 38 = .ok (.invokevirtual 38, 3) := by decide +kernel
theorem d_X8_readTerm_41 : decode prog_10_method_5_code 41 = .ok (.iadd, 1) := by decide +kernel
theorem d_X8_readTerm_42 : decode prog_10_method_5_code 42 = .ok (.bipush 48, 2) := by decide +kernel
theorem d_X8_readTerm_44 : decode prog_10_method_5_code 44 = .ok (.isub, 1) := by decide +kernel
theorem d_X8_readTerm_45 : decode prog_10_method_5_code 45 = .ok (.istore_n 2, 1) := by decide +kernel
theorem d_X8_readTerm_46 : decode prog_10_method_5_code 46 = .ok (.aload_n 0, 1) := by decide +kernel
theorem d_X8_readTerm_47 : decode prog_10_method_5_code 47 = .ok (.dup, 1) := by decide +kernel
theorem d_X8_readTerm_48 : decode prog_10_method_5_code 48 = .ok (.getfield 29, 3) := by decide +kernel
theorem d_X8_readTerm_51 : decode prog_10_method_5_code 51 = .ok (.iconst 1, 1) := by decide +kernel
theorem d_X8_readTerm_52 : decode prog_10_method_5_code 52 = .ok (.iadd, 1) := by decide +kernel
theorem d_X8_readTerm_53 : decode prog_10_method_5_code 53 = .ok (.putfield 29, 3) := by decide +kernel
theorem d_X8_readTerm_56 : decode prog_10_method_5_code 56 = .ok (.iinc 3 1, 3) := by decide +kernel
theorem d_X8_readTerm_59 : decode prog_10_method_5_code 59 = .ok (.goto (-40), 3) := by decide +kernel
theorem d_X8_readTerm_62 : decode prog_10_method_5_code 62 = .ok (.aload_n 0, 1) := by decide +kernel
theorem d_X8_readTerm_63 : decode prog_10_method_5_code 63 = .ok (.invokevirtual 38, 3) := by decide +kernel
theorem d_X8_readTerm_66 : decode prog_10_method_5_code 66 = .ok (.bipush 42, 2) := by decide +kernel
theorem d_X8_readTerm_68 : decode prog_10_method_5_code 68 = .ok (.if_icmp .ne 21, 3) := by decide +kernel
theorem d_X8_readTerm_71 : decode prog_10_method_5_code 71 = .ok (.aload_n 0, 1) := by decide +kernel
theorem d_X8_readTerm_72 : decode prog_10_method_5_code 72 = .ok (.dup, 1) := by decide +kernel
theorem d_X8_readTerm_73 : decode prog_10_method_5_code 73 = .ok (.getfield 29, 3) := by decide +kernel
theorem d_X8_readTerm_76 : decode prog_10_method_5_code 76 = .ok (.iconst 1, 1) := by decide +kernel
theorem d_X8_readTerm_77 : decode prog_10_method_5_code 77 = .ok (.iadd, 1) := by decide +kernel
theorem d_X8_readTerm_78 : decode prog_10_method_5_code 78 = .ok (.putfield 29, 3) := by decide +kernel
theorem d_X8_readTerm_81 : decode prog_10_method_5_code 81 = .ok (.aload_n 0, 1) := by decide +kernel
theorem d_X8_readTerm_82 : decode prog_10_method_5_code 82 = .ok (.iload_n 1, 1) := by decide +kernel
theorem d_X8_readTerm_83 : decode prog_10_method_5_code 83 = .ok (.iload_n 2, 1) := by decide +kernel
theorem d_X8_readTerm_84 : decode prog_10_method_5_code 84 = .ok (.imul, 1) := by decide +kernel
theorem d_X8_readTerm_85 : decode prog_10_method_5_code 85 = .ok (.invokevirtual 50, 3) := by decide +kernel
theorem d_X8_readTerm_88 : decode prog_10_method_5_code 88 = .ok (.ireturn, 1) := by decide +kernel
theorem d_X8_readTerm_89 : decode prog_10_method_5_code 89 = .ok (.aload_n 0, 1) := by decide +kernel
theorem d_X8_readTerm_90 : decode prog_10_method_5_code 90 = .ok (.getfield 9, 3) := by decide +kernel
theorem d_X8_readTerm_93 : decode prog_10_method_5_code 93 = .ok (.iconst 0, 1) := by decide +kernel
theorem d_X8_readTerm_94 : decode prog_10_method_5_code 94 = .ok (.dup2, 1) := by decide +kernel
theorem d_X8_readTerm_95 : decode prog_10_method_5_code 95 = .ok (.iaload, 1) := by decide +kernel
theorem d_X8_readTerm_96 : decode prog_10_method_5_code 96 = .ok (.iload_n 1, 1) := by decide +kernel
theorem d_X8_readTerm_97 : decode prog_10_method_5_code 97 = .ok (.iload_n 2, 1) := by decide +kernel
theorem d_X8_readTerm_98 : decode prog_10_method_5_code 98 = .ok (.imul, 1) := by decide +kernel
theorem d_X8_readTerm_99 : decode prog_10_method_5_code 99 = .ok (.iadd, 1) := by decide +kernel
theorem d_X8_readTerm_100 : decode prog_10_method_5_code 100 = .ok (.iastore, 1) := by decide +kernel
theorem d_X8_readTerm_101 : decode prog_10_method_5_code 101 = .ok (.iconst 1, 1) := by decide +kernel
theorem d_X8_readTerm_102 : decode prog_10_method_5_code 102 = .ok (.ireturn, 1) := by decide +kernel
def f_X8_readTerm_62 (x1 : Int) (x2 : Int) (M0 : tp_M) : Option (Int × tp_M) :=
  (f_X8_next M0).bind fun r5 =>
  if ¬ r5 = 42 then
    if (0 : Int) ≤ 0 ∧ (0 : Int) < 9 then
      if (0 : Int) ≤ 0 ∧ (0 : Int) < 9 then
        tp_mp (tp_up M0 19 0 (tp_w ((M0 19 0) + (tp_w (x1 * x2))))) fun M8 =>
        some (1, M8) else none else none
  else
    tp_mp (tp_up M0 18 3 (tp_w ((M0 18 3) + 1))) fun M9 =>
    (f_X8_readPower (tp_w (x1 * x2)) M9).bind fun r10 =>
    if r10.1 = 0 ∨ r10.1 = 1 then
      some (r10.1, r10.2) else none
set_option maxHeartbeats 4000000 in
set_option maxRecDepth 100000 in
theorem T_X8_readTerm_62 (G : tp_G) (x1 : Int) (x2 : Int) (M0 : tp_M) : tp_J i_X8_readTerm (tp_rm 3) G 0 0 o_X8_readTerm tp_NC (tp_st M0) 0 0 [some (.inr (.inr 18)), some (.inl x1), some (.inl x2), none] 62 [] (f_X8_readTerm_62 x1 x2 M0) := by
  unfold f_X8_readTerm_62
  refine j_aload_n rfl d_X8_readTerm_62 rfl ?_
  refine j_bind (fun r5 h6 => ?_)
  refine j_callV (y := y_X8_next) (I' := i_X8_next) (avs := []) (c := 18) (st := []) (c_X8_next G M0 r5 h6) cs_TextReader_38 wd_487 wd_489 ws_0 tg_18 rfl rfl rfl (Nat.le_of_ble_eq_true rfl) ⟨rfl, rfl⟩ ⟨by decide, by decide⟩ ⟨by decide, by decide⟩ d_X8_readTerm_63 ?_
  refine j_bipush ⟨by decide, by decide⟩ (by decide +kernel) d_X8_readTerm_66 ?_
  refine j_icmp_ne (tgt := 89) d_X8_readTerm_68 (by decide) (fun h7 => ?_) (fun h7 => ?_)
  · refine j_aload_n rfl d_X8_readTerm_89 rfl ?_
    refine j_getr fl_TextReader_9 tg_18 rv_18_0 d_X8_readTerm_90 ?_
    refine j_iconst ⟨by decide, by decide⟩ d_X8_readTerm_93 ?_
    refine j_dup2 d_X8_readTerm_94 (fun G => tp_cat G _) (fun G => tp_cat G _) ?_
    refine j_iald tg_19 al_19 d_X8_readTerm_95 ?_
    refine j_iload_n rfl d_X8_readTerm_96 rfl ?_
    refine j_iload_n rfl d_X8_readTerm_97 rfl ?_
    refine j_imul d_X8_readTerm_98 ?_
    refine j_iadd d_X8_readTerm_99 ?_
    refine j_iast tg_19 al_19 d_X8_readTerm_100 (fun M8 hM8 => ?_)
    refine j_iconst ⟨by decide, by decide⟩ d_X8_readTerm_101 ?_
    exact j_zret d_X8_readTerm_102 rfl (Or.inr rfl) rfl ⟨rfl, rfl⟩
  · refine j_aload_n rfl d_X8_readTerm_71 rfl ?_
    refine j_dup d_X8_readTerm_72 (fun G => tp_cat G _) ?_
    refine j_geti fl_TextReader_29 tg_18 d_X8_readTerm_73 ?_
    refine j_iconst ⟨by decide, by decide⟩ d_X8_readTerm_76 ?_
    refine j_iadd d_X8_readTerm_77 ?_
    refine j_put (z := 0) (v := (tp_w ((M0 18 3) + 1))) fl_TextReader_29 (by decide) tg_18 (pf_8_3 _) pt_8 d_X8_readTerm_78 (fun M9 hM9 => ?_)
    refine j_aload_n rfl d_X8_readTerm_81 rfl ?_
    refine j_iload_n rfl d_X8_readTerm_82 rfl ?_
    refine j_iload_n rfl d_X8_readTerm_83 rfl ?_
    refine j_imul d_X8_readTerm_84 ?_
    refine j_bind (fun r10 h11 => ?_)
    refine j_callV (y := y_X8_readPower) (I' := i_X8_readPower) (avs := [.inl (tp_w (x1 * x2))]) (c := 18) (st := []) (c_X8_readPower G (tp_w (x1 * x2)) M9 r10 h11) cs_TextReader_50 wd_499 wd_501 ws_3 tg_18 rfl rfl rfl (Nat.le_of_ble_eq_true rfl) ⟨rfl, rfl⟩ ⟨by decide, by decide⟩ ⟨by decide, by decide⟩ d_X8_readTerm_85 ?_
    refine tp_chk (fun h12 => ?_)
    exact j_zret d_X8_readTerm_88 rfl h12 rfl ⟨rfl, rfl⟩
def f_X8_readTerm_19B (x1 : Int) (rec_19 : Int → Int → tp_M → Option (Int × tp_M)) (x2 : Int) (x3 : Int) (M0 : tp_M) : Option (Int × tp_M) :=
  if 4 ≤ x3 then
    f_X8_readTerm_62 x1 x2 M0
  else
    (f_X8_atDigit 57 M0).bind fun r13 =>
    if r13 = 0 then
      f_X8_readTerm_62 x1 x2 M0
    else
      (f_X8_next M0).bind fun r16 =>
      tp_lt ((tp_w ((tp_w ((tp_w (10 * x2)) + r16)) - 48))) fun y18 =>
      tp_mp (tp_up M0 18 3 (tp_w ((M0 18 3) + 1))) fun M19 =>
      tp_lt (tp_w (x3 + 1)) fun y20 =>
      rec_19 y18 y20 M19
set_option maxHeartbeats 4000000 in
set_option maxRecDepth 100000 in
theorem T_X8_readTerm_19B (G : tp_G) (x1 : Int) (rec_19 : Int → Int → tp_M → Option (Int × tp_M)) (hrec_19 : ∀ (x2' x3' : Int) (M' : tp_M), tp_J i_X8_readTerm (tp_rm 3) G 0 0 o_X8_readTerm tp_NC (tp_st M') 0 0 [some (.inr (.inr 18)), some (.inl x1), some (.inl (x2')), some (.inl (x3'))] 19 [] (rec_19 x2' x3' M')) (x2 : Int) (x3 : Int) (M0 : tp_M) : tp_J i_X8_readTerm (tp_rm 3) G 0 0 o_X8_readTerm tp_NC (tp_st M0) 0 0 [some (.inr (.inr 18)), some (.inl x1), some (.inl x2), some (.inl x3)] 19 [] (f_X8_readTerm_19B x1 rec_19 x2 x3 M0) := by
  unfold f_X8_readTerm_19B
  refine j_iload_n rfl d_X8_readTerm_19 rfl ?_
  refine j_iconst ⟨by decide, by decide⟩ d_X8_readTerm_20 ?_
  refine j_icmp_ge (tgt := 62) d_X8_readTerm_21 (by decide) (fun h4 => ?_) (fun h4 => ?_)
  · exact j_wk [true, true, true, false] rfl rfl (T_X8_readTerm_62 G x1 x2 M0)
  · refine j_aload_n rfl d_X8_readTerm_24 rfl ?_
    refine j_bipush ⟨by decide, by decide⟩ (by decide +kernel) d_X8_readTerm_25 ?_
    refine j_bind (fun r13 h14 => ?_)
    refine j_callV (y := y_X8_atDigit) (I' := i_X8_atDigit) (avs := [.inl 57]) (c := 18) (st := []) (c_X8_atDigit G 57 M0 r13 h14) cs_TextReader_46 wd_495 wd_497 ws_2 tg_18 rfl rfl rfl (Nat.le_of_ble_eq_true rfl) ⟨rfl, rfl⟩ ⟨by decide, by decide⟩ ⟨by decide, by decide⟩ d_X8_readTerm_27 ?_
    refine j_if_eq (tgt := 62) d_X8_readTerm_30 (by decide) (fun h15 => ?_) (fun h15 => ?_)
    · exact j_wk [true, true, true, false] rfl rfl (T_X8_readTerm_62 G x1 x2 M0)
    · refine j_bipush ⟨by decide, by decide⟩ (by decide +kernel) d_X8_readTerm_33 ?_
      refine j_iload_n rfl d_X8_readTerm_35 rfl ?_
      refine j_imul d_X8_readTerm_36 ?_
      refine j_aload_n rfl d_X8_readTerm_37 rfl ?_
      refine j_bind (fun r16 h17 => ?_)
      refine j_callV (y := y_X8_next) (I' := i_X8_next) (avs := []) (c := 18) (st := [.inl (tp_w (10 * x2))]) (c_X8_next G M0 r16 h17) cs_TextReader_38 wd_487 wd_489 ws_0 tg_18 rfl rfl rfl (Nat.le_of_ble_eq_true rfl) ⟨rfl, rfl⟩ ⟨by decide, by decide⟩ ⟨by decide, by decide⟩ d_X8_readTerm_38 ?_
      refine j_iadd d_X8_readTerm_41 ?_
      refine j_bipush ⟨by decide, by decide⟩ (by decide +kernel) d_X8_readTerm_42 ?_
      refine j_isub d_X8_readTerm_44 ?_
      refine j_nmI (fun y18 hy18 => ?_)
      refine j_istore_n (lv' := [some (.inr (.inr 18)), some (.inl x1), some (.inl y18), some (.inl x3)]) rfl d_X8_readTerm_45 (Nat.le_of_ble_eq_true rfl) rfl ?_
      refine j_aload_n rfl d_X8_readTerm_46 rfl ?_
      refine j_dup d_X8_readTerm_47 (fun G => tp_cat G _) ?_
      refine j_geti fl_TextReader_29 tg_18 d_X8_readTerm_48 ?_
      refine j_iconst ⟨by decide, by decide⟩ d_X8_readTerm_51 ?_
      refine j_iadd d_X8_readTerm_52 ?_
      refine j_put (z := 0) (v := (tp_w ((M0 18 3) + 1))) fl_TextReader_29 (by decide) tg_18 (pf_8_3 _) pt_8 d_X8_readTerm_53 (fun M19 hM19 => ?_)
      refine j_iincN (lv' := fun y20 => [some (.inr (.inr 18)), some (.inl x1), some (.inl y18), some (.inl y20)]) d_X8_readTerm_56 rfl (Nat.le_of_ble_eq_true rfl) (fun _ => rfl) (fun y20 hy20 => ?_)
      refine j_goto (tgt := 19) d_X8_readTerm_59 (by decide) ?_
      exact j_wk [true, true, true, true] rfl rfl (hrec_19 y18 y20 M19)
def f_X8_readTerm_19 (x1 : Int) (x2 : Int) (x3 : Int) (M0 : tp_M) : Option (Int × tp_M) := tp_lp (σ := Int × Int × tp_M) (fun rec_ u => f_X8_readTerm_19B x1 (fun x2' x3' M0' => rec_ (x2', x3', M0')) u.1 u.2.1 u.2.2) tp_N (x2, x3, M0)
set_option maxHeartbeats 4000000 in
set_option maxRecDepth 100000 in
theorem T_X8_readTerm_19 (G : tp_G) (x1 : Int) (x2 : Int) (x3 : Int) (M0 : tp_M) : tp_J i_X8_readTerm (tp_rm 3) G 0 0 o_X8_readTerm tp_NC (tp_st M0) 0 0 [some (.inr (.inr 18)), some (.inl x1), some (.inl x2), some (.inl x3)] 19 [] (f_X8_readTerm_19 x1 x2 x3 M0) := by
  unfold f_X8_readTerm_19
  exact j_lp (σ := Int × Int × tp_M) (n' := fun _ => tp_NC) (g' := fun u => tp_st u.2.2) (k' := fun _ => 0) (q' := fun _ => 0) (lv' := fun u => [some (.inr (.inr 18)), some (.inl x1), some (.inl u.1), some (.inl u.2.1)]) (fun rec_ hrec u => T_X8_readTerm_19B G x1 (fun x2' x3' M0' => rec_ (x2', x3', M0')) (fun x2' x3' M0' => hrec (x2', x3', M0')) u.1 u.2.1 u.2.2) tp_N (x2, x3, M0)
def f_X8_readTerm (a0 : Int) (M0 : tp_M) : Option (Int × tp_M) :=
  (f_X8_atDigit 57 M0).bind fun r1 =>
  if ¬ r1 = 0 then
    f_X8_readTerm_19 a0 0 0 M0
  else
    (f_X8_readPower a0 M0).bind fun r21 =>
    if r21.1 = 0 ∨ r21.1 = 1 then
      some (r21.1, r21.2) else none
set_option maxHeartbeats 4000000 in
set_option maxRecDepth 100000 in
theorem T_X8_readTerm (G : tp_G) (a0 : Int) (M0 : tp_M) : tp_J i_X8_readTerm (tp_rm 3) G 0 0 o_X8_readTerm tp_NC (tp_st M0) 0 0 [some (.inr (.inr 18)), some (.inl a0), none, none] 0 [] (f_X8_readTerm a0 M0) := by
  unfold f_X8_readTerm
  refine j_aload_n rfl d_X8_readTerm_0 rfl ?_
  refine j_bipush ⟨by decide, by decide⟩ (by decide +kernel) d_X8_readTerm_1 ?_
  refine j_bind (fun r1 h2 => ?_)
  refine j_callV (y := y_X8_atDigit) (I' := i_X8_atDigit) (avs := [.inl 57]) (c := 18) (st := []) (c_X8_atDigit G 57 M0 r1 h2) cs_TextReader_46 wd_495 wd_497 ws_2 tg_18 rfl rfl rfl (Nat.le_of_ble_eq_true rfl) ⟨rfl, rfl⟩ ⟨by decide, by decide⟩ ⟨by decide, by decide⟩ d_X8_readTerm_3 ?_
  refine j_if_ne (tgt := 15) d_X8_readTerm_6 (by decide) (fun h3 => ?_) (fun h3 => ?_)
  · refine j_iconst ⟨by decide, by decide⟩ d_X8_readTerm_15 ?_
    refine j_istore_n (lv' := [some (.inr (.inr 18)), some (.inl a0), some (.inl 0), none]) rfl d_X8_readTerm_16 (Nat.le_of_ble_eq_true rfl) rfl ?_
    refine j_iconst ⟨by decide, by decide⟩ d_X8_readTerm_17 ?_
    refine j_istore_n (lv' := [some (.inr (.inr 18)), some (.inl a0), some (.inl 0), some (.inl 0)]) rfl d_X8_readTerm_18 (Nat.le_of_ble_eq_true rfl) rfl ?_
    exact j_wk [true, true, true, true] rfl rfl (T_X8_readTerm_19 G a0 0 0 M0)
  · refine j_aload_n rfl d_X8_readTerm_9 rfl ?_
    refine j_iload_n rfl d_X8_readTerm_10 rfl ?_
    refine j_bind (fun r21 h22 => ?_)
    refine j_callV (y := y_X8_readPower) (I' := i_X8_readPower) (avs := [.inl a0]) (c := 18) (st := []) (c_X8_readPower G a0 M0 r21 h22) cs_TextReader_50 wd_499 wd_501 ws_3 tg_18 rfl rfl rfl (Nat.le_of_ble_eq_true rfl) ⟨rfl, rfl⟩ ⟨by decide, by decide⟩ ⟨by decide, by decide⟩ d_X8_readTerm_11 ?_
    refine tp_chk (fun h23 => ?_)
    exact j_zret d_X8_readTerm_14 rfl h23 rfl ⟨rfl, rfl⟩
set_option maxHeartbeats 4000000 in
set_option maxRecDepth 100000 in
theorem c_X8_readTerm (G : tp_G) (a0 : Int) (M0 : tp_M) (r : Int × tp_M) (h : f_X8_readTerm a0 M0 = some r) (l : Launch) : Met l y_X8_readTerm (tp_ws y_X8_readTerm i_X8_readTerm) (tp_rm 3) (tp_Pc G [.inr (.inr 18), .inl a0] tp_NC (tp_st M0)) (tp_Q G (o_X8_readTerm r)) 0 0 (tp_A G) :=
  tp_met (I := i_X8_readTerm) (y := y_X8_readTerm) (by decide +kernel) (Eq.refl "TypesAtPrime$TextReader") (Eq.refl "readTerm") (lv := [some (.inr (.inr 18)), some (.inl a0), none, none]) rfl (Nat.le_of_ble_eq_true rfl) (T_X8_readTerm G a0 M0) h l
theorem pf_8_1 (v : Int) : ∀ (C : String) (T : u_T) (N : Nat), vwCl[8]? = some (C, T, N) → (T 1).2.2.2 = false ∧ ∀ G : tp_G, ∃ ty, parseFieldDescriptor (T 1).2.2.1 = some ty ∧ narrow ty (tp_enc G (tp_zv 3 v)) = tp_enc G (tp_zv 3 v) ∧ fits ty (tp_enc G (tp_zv 3 v)) = true := by
  intro C T N h
  cases h
  refine ⟨rfl, fun G => ⟨_, tyX8_ok 1 (by decide), ?_⟩⟩
  show narrow _ (tp_ref G v) = tp_ref G v ∧ fits _ (tp_ref G v) = true
  rcases tp_refc G v with h | ⟨a, h⟩ <;> rw [h] <;> exact ⟨rfl, rfl⟩
theorem pf_8_2 (v : Int) : ∀ (C : String) (T : u_T) (N : Nat), vwCl[8]? = some (C, T, N) → (T 2).2.2.2 = false ∧ ∀ G : tp_G, ∃ ty, parseFieldDescriptor (T 2).2.2.1 = some ty ∧ narrow ty (tp_enc G (tp_zv 0 v)) = tp_enc G (tp_zv 0 v) ∧ fits ty (tp_enc G (tp_zv 0 v)) = true := by
  intro C T N h
  cases h
  exact ⟨rfl, fun G => ⟨_, tyX8_ok 2 (by decide), rfl, rfl⟩⟩
theorem cs_TextReader_32 : tp_CS "TypesAtPrime$TextReader" 32 y_J7_fill_53178 i_J7_fill_53178 2 := ⟨wd_486, wd_14, by decide, by decide, by decide +kernel⟩
theorem wd_484 : (.methodLink "TypesAtPrime$TextReader" 32 ⟨"java/util/Arrays", "fill", "([II)V"⟩ : Cond) ∈ lw_tbl := List.mem_append_right _ (List.mem_of_getElem? (i := 484) (by decide +kernel))
theorem wd_494 : (.code ⟨"TypesAtPrime$TextReader", "readTerm", "(I)Z"⟩ prog_10_method_5_code 4 (some .boolean) : Cond) ∈ lw_tbl := List.mem_append_right _ (List.mem_of_getElem? (i := 494) (by decide +kernel))
theorem cs_TextReader_42 : tp_CS "TypesAtPrime$TextReader" 42 y_X8_readTerm i_X8_readTerm 1 := ⟨wd_494, wd_4, by decide, by decide, by decide +kernel⟩
theorem wd_491 : (.methodLink "TypesAtPrime$TextReader" 42 ⟨"TypesAtPrime$TextReader", "readTerm", "(I)Z"⟩ : Cond) ∈ lw_tbl := List.mem_append_right _ (List.mem_of_getElem? (i := 491) (by decide +kernel))
theorem wd_493 : (.instanceMethod ⟨"TypesAtPrime$TextReader", "readTerm", "(I)Z"⟩ : Cond) ∈ lw_tbl := List.mem_append_right _ (List.mem_of_getElem? (i := 493) (by decide +kernel))
theorem ws_1 : (.selects "TypesAtPrime$TextReader" ⟨"TypesAtPrime$TextReader", "readTerm", "(I)Z"⟩ ⟨"TypesAtPrime$TextReader", "readTerm", "(I)Z"⟩ : Cond) ∈ lw_tbl := List.mem_append_left _ (List.mem_of_getElem? (i := 1) (by decide +kernel))
theorem wd_481 : (.methodLink "TypesAtPrime$TextReader" 19 ⟨"java/lang/Math", "min", "(II)I"⟩ : Cond) ∈ lw_tbl := List.mem_append_right _ (List.mem_of_getElem? (i := 481) (by decide +kernel))
def y_X8_read : MethodName := ⟨"TypesAtPrime$TextReader", "read", "([BI)I"⟩
abbrev i_X8_read : tp_I := (prog_10_method_2_code, "TypesAtPrime$TextReader", (some .int), 5, "read")
abbrev o_X8_read : Int × tp_M → tp_O := fun r => (some (.inl r.1), tp_NC, tp_st r.2)
theorem d_X8_read_0 : decode prog_10_method_2_code 0 = .ok (.aload_n 0, 1) := by decide +kernel
theorem d_X8_read_1 : decode prog_10_method_2_code 1 = .ok (.aload_n 1, 1) := by decide +kernel
theorem d_X8_read_2 : decode prog_10_method_2_code 2 = .ok (.putfield 15, 3) := by decide +kernel
theorem d_X8_read_5 : decode prog_10_method_2_code 5 = .ok (.aload_n 0, 1) := by decide +kernel
theorem d_X8_read_6 : decode prog_10_method_2_code 6 = .ok (.aload_n 1, 1) := by decide +kernel
theorem d_X8_read_7 : decode prog_10_method_2_code 7 = .ok (.ifnonnull 7, 3) := by decide +kernel
theorem d_X8_read_10 : decode prog_10_method_2_code 10 = .ok (.iconst 0, 1) := by decide +kernel
theorem d_X8_read_11 : decode prog_10_method_2_code 11 = .ok (.goto 9, 3) := by decide +kernel
theorem d_X8_read_14 : decode prog_10_method_2_code 14 = .ok (.iload_n 2, 1) := by decide +kernel
theorem d_X8_read_15 : decode prog_10_method_2_code 15 = .ok (.aload_n 1, 1) := by decide +kernel
theorem d_X8_read_16 : decode prog_10_method_2_code 16 = .ok (.arraylength, 1) := by decide +kernel
theorem d_X8_read_17 : decode prog_10_method_2_code 17 = .ok (.invokestatic 19, 3) := by decide +kernel
theorem d_X8_read_20 : decode prog_10_method_2_code 20 = .ok (.putfield 25, 3) := by decide +kernel
theorem d_X8_read_23 : decode prog_10_method_2_code 23 = .ok (.aload_n 0, 1) := by decide +kernel
theorem d_X8_read_24 : decode prog_10_method_2_code 24 = .ok (.iconst 0, 1) := by decide +kernel
theorem d_X8_read_25 : decode prog_10_method_2_code 25 = .ok (.putfield 29, 3) := by decide +kernel
theorem d_X8_read_28 : decode prog_10_method_2_code 28 = .ok (.aload_n 0, 1) := by decide +kernel
theorem d_X8_read_29 : decode prog_10_method_2_code 29 = .ok (.getfield 9, 3) := by decide +kernel
theorem d_X8_read_32 : decode prog_10_method_2_code 32 = .ok (.iconst 0, 1) := by decide +kernel
theorem d_X8_read_33 : decode prog_10_method_2_code 33 = .ok (.invokestatic 32, 3) := by decide +kernel
theorem d_X8_read_36 : decode prog_10_method_2_code 36 = .ok (.iconst 1, 1) := by decide +kernel
theorem d_X8_read_37 : decode prog_10_method_2_code 37 = .ok (.istore_n 3, 1) := by decide +kernel
theorem d_X8_read_38 : decode prog_10_method_2_code 38 = .ok (.aload_n 0, 1) := by decide +kernel
theorem d_X8_read_39 : decode prog_10_method_2_code 39 = .ok (.invokevirtual 38, 3) := by decide +kernel
theorem d_X8_read_42 : decode prog_10_method_2_code 42 = .ok (.bipush 45, 2) := by decide +kernel
theorem d_X8_read_44 : decode prog_10_method_2_code 44 = .ok (.if_icmp .ne 15, 3) := by decide +kernel
theorem d_X8_read_47 : decode prog_10_method_2_code 47 = .ok (.iconst (-1), 1) := by decide +kernel
theorem d_X8_read_48 : decode prog_10_method_2_code 48 = .ok (.istore_n 3, 1) := by decide +kernel
theorem d_X8_read_49 : decode prog_10_method_2_code 49 = .ok (.aload_n 0, 1) := by decide +kernel
theorem d_X8_read_50 : decode prog_10_method_2_code 50 = .ok (.dup, 1) := by decide +kernel
theorem d_X8_read_51 : decode prog_10_method_2_code 51 = .ok (.getfield 29, 3) := by decide +kernel
theorem d_X8_read_54 : decode prog_10_method_2_code 54 = .ok (.iconst 1, 1) := by decide +kernel
theorem d_X8_read_55 : decode prog_10_method_2_code 55 = .ok (.iadd, 1) := by decide +kernel
theorem d_X8_read_56 : decode prog_10_method_2_code 56 = .ok (.putfield 29, 3) := by decide +kernel
theorem d_X8_read_59 : decode prog_10_method_2_code 59 = .ok (.iconst 0, 1) := by decide +kernel
theorem d_X8_read_60 : decode prog_10_method_2_code 60 = .ok (.istore 4, 2) := by decide +kernel
theorem d_X8_read_62 : decode prog_10_method_2_code 62 = .ok (.iload 4, 2) := by decide +kernel
theorem d_X8_read_64 : decode prog_10_method_2_code 64 = .ok (.bipush 80, 2) := by decide +kernel
theorem d_X8_read_66 : decode prog_10_method_2_code 66 = .ok (.if_icmp .gt 83, 3) := by decide +kernel
theorem d_X8_read_69 : decode prog_10_method_2_code 69 = .ok (.aload_n 0, 1) := by decide +kernel
theorem d_X8_read_70 : decode prog_10_method_2_code 70 = .ok (.iload_n 3, 1) := by decide +kernel
theorem d_X8_read_71 : decode prog_10_method_2_code 71 = .ok (.invokevirtual 42, 3) := by decide +kernel
theorem d_X8_read_74 : decode prog_10_method_2_code 74 = .ok (.ifCond .ne 8, 3) := by decide +kernel
theorem d_X8_read_77 : decode prog_10_method_2_code 77 = .ok (.aload_n 0, 1) := by decide +kernel
theorem d_X8_read_78 : decode prog_10_method_2_code 78 = .ok (.getfield 29, 3) := by decide +kernel
theorem d_X8_read_81 : decode prog_10_method_2_code 81 = .ok (.ireturn, 1) := by decide +kernel
theorem d_X8_read_82 : decode prog_10_method_2_code 82 = .ok (.aload_n 0, 1) := by decide +kernel
theorem d_X8_read_83 : decode prog_10_method_2_code 83 = .ok (.getfield 29, 3) := by decide +kernel
theorem d_X8_read_86 : decode prog_10_method_2_code 86 = .ok (.aload_n 0, 1) := by decide +kernel
theorem d_X8_read_87 : decode prog_10_method_2_code 87 = .ok (.getfield 25, 3) := by decide +kernel
theorem d_X8_read_90 : decode prog_10_method_2_code 90 = .ok (.if_icmp .ne 5, 3) := by decide +kernel
theorem d_X8_read_93 : decode prog_10_method_2_code 93 = .ok (.iconst (-1), 1) := by decide +kernel
theorem d_X8_read_94 : decode prog_10_method_2_code 94 = .ok (.ireturn, 1) := by decide +kernel
theorem d_X8_read_95 : decode prog_10_method_2_code 95 = .ok (.aload_n 0, 1) := by decide +kernel
theorem d_X8_read_96 : decode prog_10_method_2_code 96 = .ok (.invokevirtual 38, 3) := by decide +kernel
theorem d_X8_read_99 : decode prog_10_method_2_code 99 = .ok (.bipush 43, 2) := by decide +kernel
theorem d_X8_read_101 : decode prog_10_method_2_code 101 = .ok (.if_icmp .eq 17, 3) := by decide +kernel
theorem d_X8_read_104 : decode prog_10_method_2_code 104 = .ok (.aload_n 0, 1) := by decide +kernel
theorem d_X8_read_105 : decode prog_10_method_2_code 105 = .ok (.invokevirtual 38, 3) := by decide +kernel
theorem d_X8_read_108 : decode prog_10_method_2_code 108 = .ok (.bipush 45, 2) := by decide +kernel
theorem d_X8_read_110 : decode prog_10_method_2_code 110 = .ok (.if_icmp .eq 8, 3) := by decide +kernel
theorem d_X8_read_113 : decode prog_10_method_2_code 113 = .ok (.aload_n 0, 1) := by decide +kernel
theorem d_X8_read_114 : decode prog_10_method_2_code 114 = .ok (.getfield 29, 3) := by decide +kernel
theorem d_X8_read_117 : decode prog_10_method_2_code 117 = .ok (.ireturn, 1) := by decide +kernel
theorem d_X8_read_118 : decode prog_10_method_2_code 118 = .ok (.aload_n 0, 1) := by decide +kernel
theorem d_X8_read_119 : decode prog_10_method_2_code 119 = .ok (.invokevirtual 38, 3) := by decide +kernel
theorem d_X8_read_122 : decode prog_10_method_2_code 122 = .ok (.bipush 45, 2) := by decide +kernel
theorem d_X8_read_124 : decode prog_10_method_2_code 124 = .ok (.if_icmp .ne 7, 3) := by decide +kernel
theorem d_X8_read_127 : decode prog_10_method_2_code 127 = .ok (.iconst (-1), 1) := by decide +kernel
theorem d_X8_read_128 : decode prog_10_method_2_code 128 = .ok (.goto 4, 3) := by decide +kernel
theorem d_X8_read_131 : decode prog_10_method_2_code 131 = .ok (.iconst 1, 1) := by decide +kernel
theorem d_X8_read_132 : decode prog_10_method_2_code 132 = .ok (.istore_n 3, 1) := by decide +kernel
theorem d_X8_read_133 : decode prog_10_method_2_code 133 = .ok (.aload_n 0, 1) := by decide +kernel
theorem d_X8_read_134 : decode prog_10_method_2_code 134 = .ok (.dup, 1) := by decide +kernel
theorem d_X8_read_135 : decode prog_10_method_2_code 135 = .ok (.getfield 29, 3) := by decide +kernel
theorem d_X8_read_138 : decode prog_10_method_2_code 138 = .ok (.iconst 1, 1) := by decide +kernel
theorem d_X8_read_139 : decode prog_10_method_2_code 139 = .ok (.iadd, 1) := by decide +kernel
theorem d_X8_read_140 : decode prog_10_method_2_code 140 = .ok (.putfield 29, 3) := by decide +kernel
theorem d_X8_read_143 : decode prog_10_method_2_code 143 = .ok (.iinc 4 1, 3) := by decide +kernel
theorem d_X8_read_146 : decode prog_10_method_2_code 146 = .ok (.goto (-84), 3) := by decide +kernel
theorem d_X8_read_149 : decode prog_10_method_2_code 149 = .ok (.aload_n 0, 1) := by decide +kernel
theorem d_X8_read_150 : decode prog_10_method_2_code 150 = .ok (.getfield 29, 3) := by decide +kernel
theorem d_X8_read_153 : decode prog_10_method_2_code 153 = .ok (.ireturn, 1) := by decide +kernel
def f_X8_read_132 (rec_62 : Int → Int → tp_M → Option (Int × tp_M)) (x4 : Int) (s0 : Int) (M0 : tp_M) : Option (Int × tp_M) :=
  tp_mp (tp_up M0 18 3 (tp_w ((M0 18 3) + 1))) fun M22 =>
  tp_lt (tp_w (x4 + 1)) fun y23 =>
  rec_62 s0 y23 M22
set_option maxHeartbeats 4000000 in
set_option maxRecDepth 100000 in
theorem T_X8_read_132 (G : tp_G) (rec_62 : Int → Int → tp_M → Option (Int × tp_M)) (x4 : Int) (s0 : Int) (M0 : tp_M) (hrec_62 : ∀ (x3' x4' : Int) (M' : tp_M), tp_J i_X8_read (tp_rm 4) G 0 0 o_X8_read tp_NC (tp_st M') 0 0 [some (.inr (.inr 18)), none, none, some (.inl (x3')), some (.inl (x4'))] 62 [] (rec_62 x3' x4' M')) : tp_J i_X8_read (tp_rm 4) G 0 0 o_X8_read tp_NC (tp_st M0) 0 0 [some (.inr (.inr 18)), none, none, none, some (.inl x4)] 132 [.inl s0] (f_X8_read_132 rec_62 x4 s0 M0) := by
  unfold f_X8_read_132
  refine j_istore_n (lv' := [some (.inr (.inr 18)), none, none, some (.inl s0), some (.inl x4)]) rfl d_X8_read_132 (Nat.le_of_ble_eq_true rfl) rfl ?_
  refine j_aload_n rfl d_X8_read_133 rfl ?_
  refine j_dup d_X8_read_134 (fun G => tp_cat G _) ?_
  refine j_geti fl_TextReader_29 tg_18 d_X8_read_135 ?_
  refine j_iconst ⟨by decide, by decide⟩ d_X8_read_138 ?_
  refine j_iadd d_X8_read_139 ?_
  refine j_put (z := 0) (v := (tp_w ((M0 18 3) + 1))) fl_TextReader_29 (by decide) tg_18 (pf_8_3 _) pt_8 d_X8_read_140 (fun M22 hM22 => ?_)
  refine j_iincN (lv' := fun y23 => [some (.inr (.inr 18)), none, none, some (.inl s0), some (.inl y23)]) d_X8_read_143 rfl (Nat.le_of_ble_eq_true rfl) (fun _ => rfl) (fun y23 hy23 => ?_)
  refine j_goto (tgt := 62) d_X8_read_146 (by decide) ?_
  exact j_wk [true, false, false, true, true] rfl rfl (hrec_62 s0 y23 M22)
def f_X8_read_118 (rec_62 : Int → Int → tp_M → Option (Int × tp_M)) (x4 : Int) (M0 : tp_M) : Option (Int × tp_M) :=
  (f_X8_next M0).bind fun r19 =>
  if ¬ r19 = 45 then
    f_X8_read_132 rec_62 x4 1 M0
  else
    f_X8_read_132 rec_62 x4 (-1) M0
set_option maxHeartbeats 4000000 in
set_option maxRecDepth 100000 in
theorem T_X8_read_118 (G : tp_G) (rec_62 : Int → Int → tp_M → Option (Int × tp_M)) (x4 : Int) (M0 : tp_M) (hrec_62 : ∀ (x3' x4' : Int) (M' : tp_M), tp_J i_X8_read (tp_rm 4) G 0 0 o_X8_read tp_NC (tp_st M') 0 0 [some (.inr (.inr 18)), none, none, some (.inl (x3')), some (.inl (x4'))] 62 [] (rec_62 x3' x4' M')) : tp_J i_X8_read (tp_rm 4) G 0 0 o_X8_read tp_NC (tp_st M0) 0 0 [some (.inr (.inr 18)), none, none, none, some (.inl x4)] 118 [] (f_X8_read_118 rec_62 x4 M0) := by
  unfold f_X8_read_118
  refine j_aload_n rfl d_X8_read_118 rfl ?_
  refine j_bind (fun r19 h20 => ?_)
  refine j_callV (y := y_X8_next) (I' := i_X8_next) (avs := []) (c := 18) (st := []) (c_X8_next G M0 r19 h20) cs_TextReader_38 wd_487 wd_489 ws_0 tg_18 rfl rfl rfl (Nat.le_of_ble_eq_true rfl) ⟨rfl, rfl⟩ ⟨by decide, by decide⟩ ⟨by decide, by decide⟩ d_X8_read_119 ?_
  refine j_bipush ⟨by decide, by decide⟩ (by decide +kernel) d_X8_read_122 ?_
  refine j_icmp_ne (tgt := 131) d_X8_read_124 (by decide) (fun h21 => ?_) (fun h21 => ?_)
  · refine j_iconst ⟨by decide, by decide⟩ d_X8_read_131 ?_
    exact j_wk [true, false, false, false, true] rfl rfl (T_X8_read_132 G rec_62 x4 1 M0 hrec_62)
  · refine j_iconst ⟨by decide, by decide⟩ d_X8_read_127 ?_
    refine j_goto (tgt := 132) d_X8_read_128 (by decide) ?_
    exact j_wk [true, false, false, false, true] rfl rfl (T_X8_read_132 G rec_62 x4 (-1) M0 hrec_62)
def f_X8_read_62B (rec_62 : Int → Int → tp_M → Option (Int × tp_M)) (x3 : Int) (x4 : Int) (M0 : tp_M) : Option (Int × tp_M) :=
  if 80 < x4 then
    some ((M0 18 3), M0)
  else
    (f_X8_readTerm x3 M0).bind fun r12 =>
    if ¬ r12.1 = 0 then
      if ¬ (r12.2 18 3) = (r12.2 18 2) then
        (f_X8_next r12.2).bind fun r16 =>
        if r16 = 43 then
          f_X8_read_118 rec_62 x4 r12.2
        else
          (f_X8_next r12.2).bind fun r24 =>
          if r24 = 45 then
            f_X8_read_118 rec_62 x4 r12.2
          else
            some ((r12.2 18 3), r12.2)
      else
        some ((-1), r12.2)
    else
      some ((r12.2 18 3), r12.2)
set_option maxHeartbeats 4000000 in
set_option maxRecDepth 100000 in
theorem T_X8_read_62B (G : tp_G) (rec_62 : Int → Int → tp_M → Option (Int × tp_M)) (hrec_62 : ∀ (x3' x4' : Int) (M' : tp_M), tp_J i_X8_read (tp_rm 4) G 0 0 o_X8_read tp_NC (tp_st M') 0 0 [some (.inr (.inr 18)), none, none, some (.inl (x3')), some (.inl (x4'))] 62 [] (rec_62 x3' x4' M')) (x3 : Int) (x4 : Int) (M0 : tp_M) : tp_J i_X8_read (tp_rm 4) G 0 0 o_X8_read tp_NC (tp_st M0) 0 0 [some (.inr (.inr 18)), none, none, some (.inl x3), some (.inl x4)] 62 [] (f_X8_read_62B rec_62 x3 x4 M0) := by
  unfold f_X8_read_62B
  refine j_iload d_X8_read_62 rfl ?_
  refine j_bipush ⟨by decide, by decide⟩ (by decide +kernel) d_X8_read_64 ?_
  refine j_icmp_gt (tgt := 149) d_X8_read_66 (by decide) (fun h11 => ?_) (fun h11 => ?_)
  · refine j_aload_n rfl d_X8_read_149 rfl ?_
    refine j_geti fl_TextReader_29 tg_18 d_X8_read_150 ?_
    exact j_iret d_X8_read_153 rfl rfl ⟨rfl, rfl⟩
  · refine j_aload_n rfl d_X8_read_69 rfl ?_
    refine j_iload_n rfl d_X8_read_70 rfl ?_
    refine j_bind (fun r12 h13 => ?_)
    refine j_callV (y := y_X8_readTerm) (I' := i_X8_readTerm) (avs := [.inl x3]) (c := 18) (st := []) (c_X8_readTerm G x3 M0 r12 h13) cs_TextReader_42 wd_491 wd_493 ws_1 tg_18 rfl rfl rfl (Nat.le_of_ble_eq_true rfl) ⟨rfl, rfl⟩ ⟨by decide, by decide⟩ ⟨by decide, by decide⟩ d_X8_read_71 ?_
    refine j_if_ne (tgt := 82) d_X8_read_74 (by decide) (fun h14 => ?_) (fun h14 => ?_)
    · refine j_aload_n rfl d_X8_read_82 rfl ?_
      refine j_geti fl_TextReader_29 tg_18 d_X8_read_83 ?_
      refine j_aload_n rfl d_X8_read_86 rfl ?_
      refine j_geti fl_TextReader_25 tg_18 d_X8_read_87 ?_
      refine j_icmp_ne (tgt := 95) d_X8_read_90 (by decide) (fun h15 => ?_) (fun h15 => ?_)
      · refine j_aload_n rfl d_X8_read_95 rfl ?_
        refine j_bind (fun r16 h17 => ?_)
        refine j_callV (y := y_X8_next) (I' := i_X8_next) (avs := []) (c := 18) (st := []) (c_X8_next G r12.2 r16 h17) cs_TextReader_38 wd_487 wd_489 ws_0 tg_18 rfl rfl rfl (Nat.le_of_ble_eq_true rfl) ⟨rfl, rfl⟩ ⟨by decide, by decide⟩ ⟨by decide, by decide⟩ d_X8_read_96 ?_
        refine j_bipush ⟨by decide, by decide⟩ (by decide +kernel) d_X8_read_99 ?_
        refine j_icmp_eq (tgt := 118) d_X8_read_101 (by decide) (fun h18 => ?_) (fun h18 => ?_)
        · exact j_wk [true, false, false, false, true] rfl rfl (T_X8_read_118 G rec_62 x4 r12.2 hrec_62)
        · refine j_aload_n rfl d_X8_read_104 rfl ?_
          refine j_bind (fun r24 h25 => ?_)
          refine j_callV (y := y_X8_next) (I' := i_X8_next) (avs := []) (c := 18) (st := []) (c_X8_next G r12.2 r24 h25) cs_TextReader_38 wd_487 wd_489 ws_0 tg_18 rfl rfl rfl (Nat.le_of_ble_eq_true rfl) ⟨rfl, rfl⟩ ⟨by decide, by decide⟩ ⟨by decide, by decide⟩ d_X8_read_105 ?_
          refine j_bipush ⟨by decide, by decide⟩ (by decide +kernel) d_X8_read_108 ?_
          refine j_icmp_eq (tgt := 118) d_X8_read_110 (by decide) (fun h26 => ?_) (fun h26 => ?_)
          · exact j_wk [true, false, false, false, true] rfl rfl (T_X8_read_118 G rec_62 x4 r12.2 hrec_62)
          · refine j_aload_n rfl d_X8_read_113 rfl ?_
            refine j_geti fl_TextReader_29 tg_18 d_X8_read_114 ?_
            exact j_iret d_X8_read_117 rfl rfl ⟨rfl, rfl⟩
      · refine j_iconst ⟨by decide, by decide⟩ d_X8_read_93 ?_
        exact j_iret d_X8_read_94 rfl rfl ⟨rfl, rfl⟩
    · refine j_aload_n rfl d_X8_read_77 rfl ?_
      refine j_geti fl_TextReader_29 tg_18 d_X8_read_78 ?_
      exact j_iret d_X8_read_81 rfl rfl ⟨rfl, rfl⟩
def f_X8_read_62 (x3 : Int) (x4 : Int) (M0 : tp_M) : Option (Int × tp_M) := tp_lp (σ := Int × Int × tp_M) (fun rec_ u => f_X8_read_62B (fun x3' x4' M0' => rec_ (x3', x4', M0')) u.1 u.2.1 u.2.2) tp_N (x3, x4, M0)
set_option maxHeartbeats 4000000 in
set_option maxRecDepth 100000 in
theorem T_X8_read_62 (G : tp_G) (x3 : Int) (x4 : Int) (M0 : tp_M) : tp_J i_X8_read (tp_rm 4) G 0 0 o_X8_read tp_NC (tp_st M0) 0 0 [some (.inr (.inr 18)), none, none, some (.inl x3), some (.inl x4)] 62 [] (f_X8_read_62 x3 x4 M0) := by
  unfold f_X8_read_62
  exact j_lp (σ := Int × Int × tp_M) (n' := fun _ => tp_NC) (g' := fun u => tp_st u.2.2) (k' := fun _ => 0) (q' := fun _ => 0) (lv' := fun u => [some (.inr (.inr 18)), none, none, some (.inl u.1), some (.inl u.2.1)]) (fun rec_ hrec u => T_X8_read_62B G (fun x3' x4' M0' => rec_ (x3', x4', M0')) (fun x3' x4' M0' => hrec (x3', x4', M0')) u.1 u.2.1 u.2.2) tp_N (x3, x4, M0)
def f_X8_read_59 (x3 : Int) (M0 : tp_M) : Option (Int × tp_M) :=
  f_X8_read_62 x3 0 M0
set_option maxHeartbeats 4000000 in
set_option maxRecDepth 100000 in
theorem T_X8_read_59 (G : tp_G) (x3 : Int) (M0 : tp_M) : tp_J i_X8_read (tp_rm 4) G 0 0 o_X8_read tp_NC (tp_st M0) 0 0 [some (.inr (.inr 18)), none, none, some (.inl x3), none] 59 [] (f_X8_read_59 x3 M0) := by
  unfold f_X8_read_59
  refine j_iconst ⟨by decide, by decide⟩ d_X8_read_59 ?_
  refine j_istore (lv' := [some (.inr (.inr 18)), none, none, some (.inl x3), some (.inl 0)]) d_X8_read_60 (Nat.le_of_ble_eq_true rfl) rfl ?_
  exact j_wk [true, false, false, true, true] rfl rfl (T_X8_read_62 G x3 0 M0)
def f_X8_read_20 (s0 : Int) (M0 : tp_M) : Option (Int × tp_M) :=
  tp_mp (tp_up M0 18 2 s0) fun M4 =>
  tp_mp (tp_up M4 18 3 0) fun M5 =>
  (f_J7_fill_53178 19 0 M5).bind fun r6 =>
  (f_X8_next r6).bind fun r8 =>
  if ¬ r8 = 45 then
    f_X8_read_59 1 r6
  else
    tp_mp (tp_up r6 18 3 (tp_w ((r6 18 3) + 1))) fun M27 =>
    f_X8_read_59 (-1) M27
set_option maxHeartbeats 4000000 in
set_option maxRecDepth 100000 in
theorem T_X8_read_20 (G : tp_G) (s0 : Int) (M0 : tp_M) : tp_J i_X8_read (tp_rm 4) G 0 0 o_X8_read tp_NC (tp_st M0) 0 0 [some (.inr (.inr 18)), none, none, none, none] 20 [.inl s0, .inr (.inr 18)] (f_X8_read_20 s0 M0) := by
  unfold f_X8_read_20
  refine j_put (z := 0) (v := s0) fl_TextReader_25 (by decide) tg_18 (pf_8_2 _) pt_8 d_X8_read_20 (fun M4 hM4 => ?_)
  refine j_aload_n rfl d_X8_read_23 rfl ?_
  refine j_iconst ⟨by decide, by decide⟩ d_X8_read_24 ?_
  refine j_put (z := 0) (v := 0) fl_TextReader_29 (by decide) tg_18 (pf_8_3 _) pt_8 d_X8_read_25 (fun M5 hM5 => ?_)
  refine j_aload_n rfl d_X8_read_28 rfl ?_
  refine j_getr fl_TextReader_9 tg_18 rv_18_0 d_X8_read_29 ?_
  refine j_iconst ⟨by decide, by decide⟩ d_X8_read_32 ?_
  refine j_bind (fun r6 h7 => ?_)
  refine j_callS (y := y_J7_fill_53178) (I' := i_J7_fill_53178) (avs := [.inr (.inr 19), .inl 0]) (st := []) (c_J7_fill_53178 G 19 0 M5 r6 h7) cs_TextReader_32 wd_484 wd_485 rfl rfl (Nat.le_of_ble_eq_true rfl) ⟨rfl, rfl⟩ ⟨by decide, by decide⟩ ⟨by decide, by decide⟩ d_X8_read_33 ?_
  refine j_iconst ⟨by decide, by decide⟩ d_X8_read_36 ?_
  refine j_istore_n (lv' := [some (.inr (.inr 18)), none, none, some (.inl 1), none]) rfl d_X8_read_37 (Nat.le_of_ble_eq_true rfl) rfl ?_
  refine j_aload_n rfl d_X8_read_38 rfl ?_
  refine j_bind (fun r8 h9 => ?_)
  refine j_callV (y := y_X8_next) (I' := i_X8_next) (avs := []) (c := 18) (st := []) (c_X8_next G r6 r8 h9) cs_TextReader_38 wd_487 wd_489 ws_0 tg_18 rfl rfl rfl (Nat.le_of_ble_eq_true rfl) ⟨rfl, rfl⟩ ⟨by decide, by decide⟩ ⟨by decide, by decide⟩ d_X8_read_39 ?_
  refine j_bipush ⟨by decide, by decide⟩ (by decide +kernel) d_X8_read_42 ?_
  refine j_icmp_ne (tgt := 59) d_X8_read_44 (by decide) (fun h10 => ?_) (fun h10 => ?_)
  · exact j_wk [true, false, false, true, false] rfl rfl (T_X8_read_59 G 1 r6)
  · refine j_iconst ⟨by decide, by decide⟩ d_X8_read_47 ?_
    refine j_istore_n (lv' := [some (.inr (.inr 18)), none, none, some (.inl (-1)), none]) rfl d_X8_read_48 (Nat.le_of_ble_eq_true rfl) rfl ?_
    refine j_aload_n rfl d_X8_read_49 rfl ?_
    refine j_dup d_X8_read_50 (fun G => tp_cat G _) ?_
    refine j_geti fl_TextReader_29 tg_18 d_X8_read_51 ?_
    refine j_iconst ⟨by decide, by decide⟩ d_X8_read_54 ?_
    refine j_iadd d_X8_read_55 ?_
    refine j_put (z := 0) (v := (tp_w ((r6 18 3) + 1))) fl_TextReader_29 (by decide) tg_18 (pf_8_3 _) pt_8 d_X8_read_56 (fun M27 hM27 => ?_)
    exact j_wk [true, false, false, true, false] rfl rfl (T_X8_read_59 G (-1) M27)
def f_X8_read (a0 : Int) (a1 : Int) (M0 : tp_M) : Option (Int × tp_M) :=
  if tp_tg a0 = 20 then
    tp_mp (tp_up M0 18 1 a0) fun M2 =>
    if a0 = -1 then
      f_X8_read_20 0 M2
    else
      f_X8_read_20 (min a1 (tp_al a0)) M2 else none
set_option maxHeartbeats 4000000 in
set_option maxRecDepth 100000 in
theorem T_X8_read (G : tp_G) (a0 : Int) (a1 : Int) (M0 : tp_M) : tp_J i_X8_read (tp_rm 4) G 0 0 o_X8_read tp_NC (tp_st M0) 0 0 [some (.inr (.inr 18)), some (.inr (.inr a0)), some (.inl a1), none, none] 0 [] (f_X8_read a0 a1 M0) := by
  unfold f_X8_read
  refine tp_chk (fun ht1 => ?_)
  refine j_aload_n rfl d_X8_read_0 rfl ?_
  refine j_aload_n rfl d_X8_read_1 rfl ?_
  refine j_put (z := 3) (v := a0) fl_TextReader_15 (by decide) tg_18 (pf_8_1 _) pt_8 d_X8_read_2 (fun M2 hM2 => ?_)
  refine j_aload_n rfl d_X8_read_5 rfl ?_
  refine j_aload_n rfl d_X8_read_6 rfl ?_
  refine j_ifnonnull (tgt := 14) d_X8_read_7 (by decide) (fun h3 => ?_) (fun h3 => ?_)
  · refine j_iconst ⟨by decide, by decide⟩ d_X8_read_10 ?_
    refine j_goto (tgt := 20) d_X8_read_11 (by decide) ?_
    exact j_wk [true, false, false, false, false] rfl rfl (T_X8_read_20 G 0 M2)
  · refine j_iload_n rfl d_X8_read_14 rfl ?_
    refine j_aload_n rfl d_X8_read_15 rfl ?_
    refine j_alen ht1 (by decide) rfl (tp_al_r _) (ty := .byte) (by decide) d_X8_read_16 ?_
    refine j_mmin wd_481 wd_482 wd_13 wd_483 ⟨(by decide : 1 ≤ ((tp_rm 4) : Room).frames), (by decide : 40 ≤ ((tp_rm 4) : Room).locals)⟩ ⟨by decide, by decide⟩ (Nat.le_of_ble_eq_true rfl) d_X8_read_17 ?_
    exact j_wk [true, false, false, false, false] rfl rfl (T_X8_read_20 G (min a1 (tp_al a0)) M2)
set_option maxHeartbeats 4000000 in
set_option maxRecDepth 100000 in
theorem c_X8_read (G : tp_G) (a0 : Int) (a1 : Int) (M0 : tp_M) (r : Int × tp_M) (h : f_X8_read a0 a1 M0 = some r) (l : Launch) : Met l y_X8_read (tp_ws y_X8_read i_X8_read) (tp_rm 4) (tp_Pc G [.inr (.inr 18), .inr (.inr a0), .inl a1] tp_NC (tp_st M0)) (tp_Q G (o_X8_read r)) 0 0 (tp_A G) :=
  tp_met (I := i_X8_read) (y := y_X8_read) (by decide +kernel) (Eq.refl "TypesAtPrime$TextReader") (Eq.refl "read") (lv := [some (.inr (.inr 18)), some (.inr (.inr a0)), some (.inl a1), none, none]) rfl (Nat.le_of_ble_eq_true rfl) (T_X8_read G a0 a1 M0) h l
theorem wd_287 : (.fieldLink "TypesAtPrime$Tree" 36 "TypesAtPrime$Tree" "stands" "Z" : Cond) ∈ lw_tbl := List.mem_append_right _ (List.mem_of_getElem? (i := 287) (by decide +kernel))
theorem fl_Tree_36 : tp_F "TypesAtPrime$Tree" 36 9 0 0 := ⟨_, _, _, rfl, by decide, rfl, wd_287, rfl, by decide⟩
theorem pf_9_0 (v : Int) (hv : v = 0 ∨ v = 1) : ∀ (C : String) (T : u_T) (N : Nat), vwCl[9]? = some (C, T, N) → (T 0).2.2.2 = false ∧ ∀ G : tp_G, ∃ ty, parseFieldDescriptor (T 0).2.2.1 = some ty ∧ narrow ty (tp_enc G (tp_zv 0 v)) = tp_enc G (tp_zv 0 v) ∧ fits ty (tp_enc G (tp_zv 0 v)) = true := by
  intro C T N h
  cases h
  refine ⟨rfl, fun G => ⟨_, tyX9_ok 0 (by decide), ?_⟩⟩
  rcases hv with rfl | rfl <;> exact ⟨rfl, rfl⟩
theorem wd_290 : (.fieldLink "TypesAtPrime$Tree" 40 "TypesAtPrime$Tree" "degree" "I" : Cond) ∈ lw_tbl := List.mem_append_right _ (List.mem_of_getElem? (i := 290) (by decide +kernel))
theorem fl_Tree_40 : tp_F "TypesAtPrime$Tree" 40 9 1 0 := ⟨_, _, _, rfl, by decide, rfl, wd_290, rfl, by decide⟩
theorem pf_9_1 (v : Int) : ∀ (C : String) (T : u_T) (N : Nat), vwCl[9]? = some (C, T, N) → (T 1).2.2.2 = false ∧ ∀ G : tp_G, ∃ ty, parseFieldDescriptor (T 1).2.2.1 = some ty ∧ narrow ty (tp_enc G (tp_zv 0 v)) = tp_enc G (tp_zv 0 v) ∧ fits ty (tp_enc G (tp_zv 0 v)) = true := by
  intro C T N h
  cases h
  exact ⟨rfl, fun G => ⟨_, tyX9_ok 1 (by decide), rfl, rfl⟩⟩
theorem wd_293 : (.fieldLink "TypesAtPrime$Tree" 44 "TypesAtPrime$Tree" "knotCount" "I" : Cond) ∈ lw_tbl := List.mem_append_right _ (List.mem_of_getElem? (i := 293) (by decide +kernel))
theorem fl_Tree_44 : tp_F "TypesAtPrime$Tree" 44 9 2 0 := ⟨_, _, _, rfl, by decide, rfl, wd_293, rfl, by decide⟩
theorem pf_9_2 (v : Int) : ∀ (C : String) (T : u_T) (N : Nat), vwCl[9]? = some (C, T, N) → (T 2).2.2.2 = false ∧ ∀ G : tp_G, ∃ ty, parseFieldDescriptor (T 2).2.2.1 = some ty ∧ narrow ty (tp_enc G (tp_zv 0 v)) = tp_enc G (tp_zv 0 v) ∧ fits ty (tp_enc G (tp_zv 0 v)) = true := by
  intro C T N h
  cases h
  exact ⟨rfl, fun G => ⟨_, tyX9_ok 2 (by decide), rfl, rfl⟩⟩
theorem wd_296 : (.fieldLink "TypesAtPrime$Tree" 50 "TypesAtPrime$Tree" "leafCount" "I" : Cond) ∈ lw_tbl := List.mem_append_right _ (List.mem_of_getElem? (i := 296) (by decide +kernel))
theorem fl_Tree_50 : tp_F "TypesAtPrime$Tree" 50 9 3 0 := ⟨_, _, _, rfl, by decide, rfl, wd_296, rfl, by decide⟩
theorem pf_9_3 (v : Int) : ∀ (C : String) (T : u_T) (N : Nat), vwCl[9]? = some (C, T, N) → (T 3).2.2.2 = false ∧ ∀ G : tp_G, ∃ ty, parseFieldDescriptor (T 3).2.2.1 = some ty ∧ narrow ty (tp_enc G (tp_zv 0 v)) = tp_enc G (tp_zv 0 v) ∧ fits ty (tp_enc G (tp_zv 0 v)) = true := by
  intro C T N h
  cases h
  exact ⟨rfl, fun G => ⟨_, tyX9_ok 3 (by decide), rfl, rfl⟩⟩
theorem wd_298 : (.fieldLink "TypesAtPrime$Tree" 53 "TypesAtPrime$Tree" "spellingSize" "I" : Cond) ∈ lw_tbl := List.mem_append_right _ (List.mem_of_getElem? (i := 298) (by decide +kernel))
theorem fl_Tree_53 : tp_F "TypesAtPrime$Tree" 53 9 4 0 := ⟨_, _, _, rfl, by decide, rfl, wd_298, rfl, by decide⟩
theorem pf_9_4 (v : Int) : ∀ (C : String) (T : u_T) (N : Nat), vwCl[9]? = some (C, T, N) → (T 4).2.2.2 = false ∧ ∀ G : tp_G, ∃ ty, parseFieldDescriptor (T 4).2.2.1 = some ty ∧ narrow ty (tp_enc G (tp_zv 0 v)) = tp_enc G (tp_zv 0 v) ∧ fits ty (tp_enc G (tp_zv 0 v)) = true := by
  intro C T N h
  cases h
  exact ⟨rfl, fun G => ⟨_, tyX9_ok 4 (by decide), rfl, rfl⟩⟩
def y_X9_fell : MethodName := ⟨"TypesAtPrime$Tree", "fell", "()V"⟩
abbrev i_X9_fell : tp_I := (prog_11_method_2_code, "TypesAtPrime$Tree", none, 1, "fell")
abbrev o_X9_fell : tp_M → tp_O := fun r => (none, tp_NC, tp_st r)
theorem d_X9_fell_0 : decode prog_11_method_2_code 0 = .ok (.aload_n 0, 1) := by decide +kernel
theorem d_X9_fell_1 : decode prog_11_method_2_code 1 = .ok (.iconst 0, 1) := by decide +kernel
theorem d_X9_fell_2 : decode prog_11_method_2_code 2 = .ok (.putfield 36, 3) := by decide +kernel
theorem d_X9_fell_5 : decode prog_11_method_2_code 5 = .ok (.aload_n 0, 1) := by decide +kernel
theorem d_X9_fell_6 : decode prog_11_method_2_code 6 = .ok (.iconst 0, 1) := by decide +kernel
theorem d_X9_fell_7 : decode prog_11_method_2_code 7 = .ok (.putfield 40, 3) := by decide +kernel
theorem d_X9_fell_10 : decode prog_11_method_2_code 10 = .ok (.aload_n 0, 1) := by decide +kernel
theorem d_X9_fell_11 : decode prog_11_method_2_code 11 = .ok (.iconst 0, 1) := by decide +kernel
theorem d_X9_fell_12 : decode prog_11_method_2_code 12 = .ok (.putfield 44, 3) := by decide +kernel
theorem d_X9_fell_15 : decode prog_11_method_2_code 15 = .ok (.aload_n 0, 1) := by decide +kernel
theorem d_X9_fell_16 : decode prog_11_method_2_code 16 = .ok (.iconst 0, 1) := by decide +kernel
theorem d_X9_fell_17 : decode prog_11_method_2_code 17 = .ok (.putfield 47, 3) := by decide +kernel
theorem d_X9_fell_20 : decode prog_11_method_2_code 20 = .ok (.aload_n 0, 1) := by decide +kernel
theorem d_X9_fell_21 : decode prog_11_method_2_code 21 = .ok (.iconst 0, 1) := by decide +kernel
theorem d_X9_fell_22 : decode prog_11_method_2_code 22 = .ok (.putfield 50, 3) := by decide +kernel
theorem d_X9_fell_25 : decode prog_11_method_2_code 25 = .ok (.aload_n 0, 1) := by decide +kernel
theorem d_X9_fell_26 : decode prog_11_method_2_code 26 = .ok (.iconst 0, 1) := by decide +kernel
theorem d_X9_fell_27 : decode prog_11_method_2_code 27 = .ok (.putfield 53, 3) := by decide +kernel
theorem d_X9_fell_30 : decode prog_11_method_2_code 30 = .ok (.return_, 1) := by decide +kernel
def f_X9_fell (M0 : tp_M) : Option (tp_M) :=
  tp_mp (tp_up M0 41 0 0) fun M1 =>
  tp_mp (tp_up M1 41 1 0) fun M2 =>
  tp_mp (tp_up M2 41 2 0) fun M3 =>
  tp_mp (tp_up M3 41 6 0) fun M4 =>
  tp_mp (tp_up M4 41 3 0) fun M5 =>
  tp_mp (tp_up M5 41 4 0) fun M6 =>
  some M6
set_option maxHeartbeats 4000000 in
set_option maxRecDepth 100000 in
theorem T_X9_fell (G : tp_G) (M0 : tp_M) : tp_J i_X9_fell (tp_rm 0) G 0 0 o_X9_fell tp_NC (tp_st M0) 0 0 [some (.inr (.inr 41))] 0 [] (f_X9_fell M0) := by
  unfold f_X9_fell
  refine j_aload_n rfl d_X9_fell_0 rfl ?_
  refine j_iconst ⟨by decide, by decide⟩ d_X9_fell_1 ?_
  refine j_put (z := 0) (v := 0) fl_Tree_36 (by decide) tg_41 (pf_9_0 _ (Or.inl rfl)) pt_9 d_X9_fell_2 (fun M1 hM1 => ?_)
  refine j_aload_n rfl d_X9_fell_5 rfl ?_
  refine j_iconst ⟨by decide, by decide⟩ d_X9_fell_6 ?_
  refine j_put (z := 0) (v := 0) fl_Tree_40 (by decide) tg_41 (pf_9_1 _) pt_9 d_X9_fell_7 (fun M2 hM2 => ?_)
  refine j_aload_n rfl d_X9_fell_10 rfl ?_
  refine j_iconst ⟨by decide, by decide⟩ d_X9_fell_11 ?_
  refine j_put (z := 0) (v := 0) fl_Tree_44 (by decide) tg_41 (pf_9_2 _) pt_9 d_X9_fell_12 (fun M3 hM3 => ?_)
  refine j_aload_n rfl d_X9_fell_15 rfl ?_
  refine j_iconst ⟨by decide, by decide⟩ d_X9_fell_16 ?_
  refine j_put (z := 0) (v := 0) fl_Tree_47 (by decide) tg_41 (pf_9_6 _) pt_9 d_X9_fell_17 (fun M4 hM4 => ?_)
  refine j_aload_n rfl d_X9_fell_20 rfl ?_
  refine j_iconst ⟨by decide, by decide⟩ d_X9_fell_21 ?_
  refine j_put (z := 0) (v := 0) fl_Tree_50 (by decide) tg_41 (pf_9_3 _) pt_9 d_X9_fell_22 (fun M5 hM5 => ?_)
  refine j_aload_n rfl d_X9_fell_25 rfl ?_
  refine j_iconst ⟨by decide, by decide⟩ d_X9_fell_26 ?_
  refine j_put (z := 0) (v := 0) fl_Tree_53 (by decide) tg_41 (pf_9_4 _) pt_9 d_X9_fell_27 (fun M6 hM6 => ?_)
  exact j_vret d_X9_fell_30 rfl rfl ⟨rfl, rfl⟩
set_option maxHeartbeats 4000000 in
set_option maxRecDepth 100000 in
theorem c_X9_fell (G : tp_G) (M0 : tp_M) (r : tp_M) (h : f_X9_fell M0 = some r) (l : Launch) : Met l y_X9_fell (tp_ws y_X9_fell i_X9_fell) (tp_rm 0) (tp_Pc G [.inr (.inr 41)] tp_NC (tp_st M0)) (tp_Q G (o_X9_fell r)) 0 0 (tp_A G) :=
  tp_met (I := i_X9_fell) (y := y_X9_fell) (by decide +kernel) (Eq.refl "TypesAtPrime$Tree") (Eq.refl "fell") (lv := [some (.inr (.inr 41))]) rfl (Nat.le_of_ble_eq_true rfl) (T_X9_fell G M0) h l
